/-! ways on the side of the reference: numbers made less until nothing changes -/
def zsw (T : Nat → Nat → Option (Nat × Nat)) (a : Nat) (s : Nat → Nat) : Prop := ∀ b, b < 16 → s b = 100000000 ∨ (s b < 100000000 ∧ ∃ n, zwlk T n a b (s b))
def zrd (ns : Nat) (T : Nat → Nat → Option (Nat × Nat)) (a : Nat) (s0 : Nat → Nat) (Q : Nat → Nat → Prop) (s : Nat → Nat) (v : Int32) : Prop := zsw T a s ∧ (∀ b, b < 16 → s b ≤ s0 b) ∧ (∀ p e q h, Q p e → p < 2 * ns → e < 4 → T p e = some (q, h) → s0 p < 100000000 → s q ≤ s0 p + h) ∧ (v = 0 ∧ (∀ b, b < 16 → s b = s0 b) ∨ v = 1 ∧ ∃ b, b < 16 ∧ s b < s0 b)
theorem m_fs56 {J : zI} {ns : Nat} {T : Nat → Nat → Option (Nat × Nat)} (hT : wT ns T) (hM : mT J ns T) {a cur : Nat} {s0 : Nat → Nat} {Q : Nat → Nat → Prop} (hcur : cur < 2 * ns) (K : Int32 → Int32 → zI → Option zI) : ∀ (m k fuel : Nat) (V : zI) (s : Nat → Nat) (v : Int32), k + m = 4 → m < fuel → (∀ p, p < 16 → V 9 p = nI (s p)) → (∀ c j, c ≠ 7 → c ≠ 8 → c ≠ 9 → ¬ (c = 0 ∧ (j = 14 ∨ j = 15)) → V c j = J c j) → zrd ns T a s0 (fun p e => Q p e ∨ (p = cur ∧ e < k)) s v → ∃ V' s' v', fm_findSoonest_L56 K fuel v (nI cur) (nI k) V = K v' (nI cur) V' ∧ (∀ p, p < 16 → V' 9 p = nI (s' p)) ∧ (∀ c j, c ≠ 7 → c ≠ 8 → c ≠ 9 → ¬ (c = 0 ∧ (j = 14 ∨ j = 15)) → V' c j = J c j) ∧ zrd ns T a s0 (fun p e => Q p e ∨ (p = cur ∧ e < 4)) s' v' := by
  have hns := hT.1
  intro m
  induction m with
  | zero =>
    intro k fuel V s v hk hf h9 hV hR
    obtain ⟨f, rfl⟩ : ∃ f, fuel = f + 1 := ⟨fuel - 1, by omega⟩
    have hk4 : k = 4 := by omega
    subst hk4
    exact ⟨V, s, v, by rw [fm_findSoonest_L56, if_pos (show (4 : Int32) ≤ nI 4 by decide)], h9, hV, hR⟩
  | succ m ih =>
    intro k fuel V s v hk hf h9 hV hR
    obtain ⟨f, rfl⟩ : ∃ f, fuel = f + 1 := ⟨fuel - 1, by omega⟩
    obtain ⟨r1, r2, r3, r4⟩ := id hR
    have hle : s cur ≤ 100000000 := by rcases r1 cur (by omega) with h | h <;> omega
    rw [fm_findSoonest_L56, if_neg (show ¬ (4 : Int32) ≤ nI k from nI_ge (b := 4) (by omega) (by omega)), zl_b (by omega), show decide (cur < 16) = true from decide_eq_true (by omega), zl_cl cur (by omega), h9 cur (by omega), nI_1]
    simp only [z_guard, if_true]
    have hskip : ∀ V2 : zI, (∀ p, p < 16 → V2 9 p = nI (s p)) → (∀ c j, c ≠ 7 → c ≠ 8 → c ≠ 9 → ¬ (c = 0 ∧ (j = 14 ∨ j = 15)) → V2 c j = J c j) → (∀ q h, T cur k = some (q, h) → s0 cur < 100000000 → s q ≤ s0 cur + h) → ∃ V' s' v', fm_findSoonest_L56 K f v (nI cur) (nI (k + 1)) V2 = K v' (nI cur) V' ∧ (∀ p, p < 16 → V' 9 p = nI (s' p)) ∧ (∀ c j, c ≠ 7 → c ≠ 8 → c ≠ 9 → ¬ (c = 0 ∧ (j = 14 ∨ j = 15)) → V' c j = J c j) ∧ zrd ns T a s0 (fun p e => Q p e ∨ (p = cur ∧ e < 4)) s' v' := fun V2 k1 k2 k3 =>
      ih (k + 1) f V2 s v (by omega) (by omega) k1 k2 ⟨r1, r2, fun p e q h hQ hp he ht hs => by
        by_cases hpe : p = cur ∧ e = k
        · obtain ⟨rfl, rfl⟩ := hpe
          exact k3 q h ht hs
        · refine r3 p e q h ?_ hp he ht hs
          rcases hQ with hQ | ⟨q1, q2⟩
          · exact Or.inl hQ
          · exact Or.inr ⟨q1, by omega⟩, r4⟩
    by_cases hfar : s cur = 100000000
    · rw [if_pos (show (100000000 : Int32) ≤ nI (s cur) by rw [hfar]; decide)]
      exact hskip V h9 hV (fun q h ht hs => by have := r2 cur (by omega); omega)
    · have hlt : s cur < 100000000 := by omega
      rw [if_neg (show ¬ (100000000 : Int32) ≤ nI (s cur) from nI_ge (b := 100000000) hlt (by omega))]
      obtain ⟨V1, t1, t2, t3, t4⟩ := hM.2 V (fun j hj => hV 1 j (by omega) (by omega) (by omega) (by omega)) cur k hcur (by omega)
      rw [t1, Option.bind_some]
      have h9' : ∀ p, p < 16 → V1 9 p = nI (s p) := fun p hp => by rw [t4 _ _ (by omega) (by omega) (by omega)]; exact h9 p hp
      have hV' : ∀ c j, c ≠ 7 → c ≠ 8 → c ≠ 9 → ¬ (c = 0 ∧ (j = 14 ∨ j = 15)) → V1 c j = J c j := fun c j q1 q2 q3 q4 => by rw [t4 c j q1 q2 q4]; exact hV c j q1 q2 q3 q4
      cases eT : T cur k with
      | none =>
        rw [eT] at hskip
        rw [if_pos rfl]
        exact hskip V1 h9' hV' (fun q h e => by cases e)
      | some qh =>
        obtain ⟨q, h0⟩ := qh
        obtain ⟨t5, t6⟩ := t2 (q, h0) eT
        simp only at t5 t6
        have hq2 := hT.2 cur k (q, h0) hcur (by omega) eT
        simp only at hq2
        have hqle : s q ≤ 100000000 := by rcases r1 q (by omega) with h | h <;> omega
        rw [if_neg z10]
        simp only
        rw [t5, t6, zl_b (by omega), show decide (q < 16) = true from decide_eq_true (by omega), zl_cl q (by omega), h9' q (by omega), h9' cur (by omega), zl_add]
        simp only [if_true]
        by_cases hc : s q ≤ s cur + h0
        · rw [if_pos (nI_le hc (by omega))]
          exact hskip V1 h9' hV' (fun q2 h2 e hs => by
            rw [eT] at e
            cases e
            have := r2 cur (by omega)
            omega)
        · rw [if_neg (nI_ge (by omega) (by omega))]
          refine ih (k + 1) f (zup V1 9 q (nI (s cur + h0))) (vup s q (s cur + h0)) 1 (by omega) (by omega) (fun p hp => ?_) (fun c j q1 q2 q3 q4 => by rw [zup_o (by omega)]; exact hV' c j q1 q2 q3 q4) ⟨fun b hb => ?_, fun b hb => ?_, fun p e q2 h2 hQ hp he ht hs => ?_, Or.inr ⟨rfl, q, by omega, by rw [vup_s]; have := r2 q (by omega); omega⟩⟩
          · by_cases hpq : p = q
            · subst hpq; rw [zup_y, vup_s]
            · rw [zup_o (by omega), vup_n hpq]; exact h9' p hp
          · by_cases hbq : b = q
            · subst hbq
              rw [vup_s]
              rcases r1 cur (by omega) with h | ⟨_, n, h⟩
              · omega
              · exact Or.inr ⟨by omega, n + 1, zwlk_app (show k < 4 by omega) eT n a (s cur) h⟩
            · rw [vup_n hbq]; exact r1 b hb
          · by_cases hbq : b = q
            · subst hbq
              rw [vup_s]
              have := r2 b hb
              omega
            · rw [vup_n hbq]; exact r2 b hb
          · have hold : Q p e ∨ (p = cur ∧ e < k) → s q2 ≤ s0 p + h2 := fun hQ2 => r3 p e q2 h2 hQ2 hp he ht hs
            by_cases hpe : p = cur ∧ e = k
            · obtain ⟨rfl, rfl⟩ := hpe
              rw [eT] at ht
              cases ht
              rw [vup_s]
              have := r2 p (by omega)
              omega
            · have hq3 := hold (by
                rcases hQ with hQ | ⟨q1, q2⟩
                · exact Or.inl hQ
                · exact Or.inr ⟨q1, by omega⟩)
              by_cases hqq : q2 = q
              · subst hqq; rw [vup_s]; omega
              · rw [vup_n hqq]; exact hq3
theorem m_fs41 {J : zI} {ns : Nat} {T : Nat → Nat → Option (Nat × Nat)} (hT : wT ns T) (hM : mT J ns T) {a : Nat} {s0 : Nat → Nat} (K : Int32 → zI → Option zI) : ∀ (m k fuel : Nat) (V : zI) (s : Nat → Nat) (v : Int32), k + m = 2 * ns → m < fuel → (∀ p, p < 16 → V 9 p = nI (s p)) → (∀ c j, c ≠ 7 → c ≠ 8 → c ≠ 9 → ¬ (c = 0 ∧ (j = 14 ∨ j = 15)) → V c j = J c j) → zrd ns T a s0 (fun p _ => p < k) s v → ∃ V' s' v', fm_findSoonest_L41 K fuel v (nI k) V = K v' V' ∧ (∀ p, p < 16 → V' 9 p = nI (s' p)) ∧ (∀ c j, c ≠ 7 → c ≠ 8 → c ≠ 9 → ¬ (c = 0 ∧ (j = 14 ∨ j = 15)) → V' c j = J c j) ∧ zrd ns T a s0 (fun p _ => p < 2 * ns) s' v' := by
  have hns := hT.1
  intro m
  induction m with
  | zero =>
    intro k fuel V s v hk hf h9 hV hR
    obtain ⟨f, rfl⟩ : ∃ f, fuel = f + 1 := ⟨fuel - 1, by omega⟩
    have hk4 : k = 2 * ns := by omega
    subst hk4
    have h0 : V 1 0 = nI ns := by rw [hV 1 0 (by omega) (by omega) (by omega) (by omega)]; exact hM.1
    exact ⟨V, s, v, by rw [fm_findSoonest_L41, zcl0, h0, show (2 : Int32) * nI ns = nI (2 * ns) from zl_mul 2 ns, if_pos (nI_le (by omega) (by omega))], h9, hV, hR⟩
  | succ m ih =>
    intro k fuel V s v hk hf h9 hV hR
    obtain ⟨f, rfl⟩ : ∃ f, fuel = f + 1 := ⟨fuel - 1, by omega⟩
    have h0 : V 1 0 = nI ns := by rw [hV 1 0 (by omega) (by omega) (by omega) (by omega)]; exact hM.1
    obtain ⟨V1, s1, v1, q1, q2, q3, q4⟩ := m_fs56 hT hM (cur := k) (Q := fun p _ => p < k) (by omega) (fun (u12 : Int32) (u13 : Int32) (J14 : zI) => fm_findSoonest_L41 K f u12 (u13 + (1 : Int32)) J14) 4 0 100 V s v (by omega) (by omega) h9 hV ⟨hR.1, hR.2.1, fun p e q h hQ hp he ht hs => hR.2.2.1 p e q h (by rcases hQ with hQ | hQ; exact hQ; exact absurd hQ.2 (by omega)) hp he ht hs, hR.2.2.2⟩
    obtain ⟨V', s', v', p1, p2, p3, p4⟩ := ih (k + 1) f V1 s1 v1 (by omega) (by omega) q2 q3 ⟨q4.1, q4.2.1, fun p e q h hQ hp he ht hs => q4.2.2.1 p e q h (by
      by_cases hpk : p = k
      · exact Or.inr ⟨hpk, he⟩
      · exact Or.inl (by omega)) hp he ht hs, q4.2.2.2⟩
    refine ⟨V', s', v', ?_, p2, p3, p4⟩
    rw [fm_findSoonest_L41, zcl0, h0, show (2 : Int32) * nI ns = nI (2 * ns) from zl_mul 2 ns, if_neg (nI_ge (by omega) (by omega)), show (0 : Int32) = nI 0 from rfl, q1, nI_1]
    exact p1
def zsv (o : Option Nat) : Nat := o.getD 100000000
/-- how many places come sooner -/
def zrk (D : Nat → Option Nat) (d : Nat) : Nat := zsum (fun q => match D q with
  | none => false
  | some x => decide (x < d)) (fun _ => 1) 16
theorem zsum_lt {P P' : Nat → Bool} {cur : Nat} (hP : ∀ q, P q = true → P' q = true) (h1 : P cur = false) (h2 : P' cur = true) : ∀ n, zsum P (fun _ => 1) n ≤ zsum P' (fun _ => 1) n ∧ (cur < n → zsum P (fun _ => 1) n + 1 ≤ zsum P' (fun _ => 1) n)
  | 0 => ⟨Nat.le_refl _, fun h => by omega⟩
  | n + 1 => by
    obtain ⟨i1, i2⟩ := zsum_lt hP h1 h2 n
    rw [zsum, zsum]
    have hn : (if P n then 1 else 0) ≤ (if P' n then 1 else 0) := by
      cases e : P n with
      | false => simp
      | true => rw [hP n e]; exact Nat.le_refl _
    refine ⟨Nat.add_le_add i1 hn, fun h => ?_⟩
    by_cases e : cur = n
    · subst e
      rw [h1, h2]
      simp
      omega
    · have := i2 (by omega)
      omega
theorem zrk_lt {D : Nat → Option Nat} {p d d' : Nat} (hp : D p = some d') (hp16 : p < 16) (hd : d' < d) : zrk D d' + 1 ≤ zrk D d := by
  refine (zsum_lt (cur := p) (fun q hq => ?_) ?_ ?_ 16).2 hp16
  · cases e : D q with
    | none => rw [e] at hq; exact hq
    | some x =>
      rw [e] at hq
      have := of_decide_eq_true hq
      exact decide_eq_true (by omega)
  · rw [hp]
    exact decide_eq_false (by omega)
  · rw [hp]
    exact decide_eq_true hd
theorem zs_le {ns : Nat} {T : Nat → Nat → Option (Nat × Nat)} (hT : wT ns T) {s : Nat → Nat} (hcl : ∀ p e q h, p < 2 * ns → e < 4 → T p e = some (q, h) → s p < 100000000 → s q ≤ s p + h) {b : Nat} : ∀ n p d, p < 2 * ns → zwlk T n p b d → s p + d < 100000000 → s b ≤ s p + d
  | 0, p, d, hp, hw, hs => by
    obtain ⟨rfl, rfl⟩ := hw
    exact Nat.le_refl _
  | n + 1, p, d, hp, hw, hs => by
    obtain ⟨e1, q, h1, d1, k1, k2, k3, k4⟩ := hw
    have h2 := hcl p e1 q h1 hp k1 k2 (by omega)
    have h3 := zs_le hT hcl n q d1 (hT.2 p e1 (q, h1) hp k1 k2).1 k3 (by omega)
    omega
theorem zs_end {ns : Nat} {T : Nat → Nat → Option (Nat × Nat)} (hT : wT ns T) {a : Nat} (ha : a < 2 * ns) {D : Nat → Option Nat} (hD : zds ns T a D) {s : Nat → Nat} (hw : zsw T a s) (h0 : s a = 0) (hcl : ∀ p e q h, p < 2 * ns → e < 4 → T p e = some (q, h) → s p < 100000000 → s q ≤ s p + h) {b : Nat} (hb : b < 16) : s b = zsv (D b) := by
  cases e : D b with
  | none =>
    rcases hw b hb with h | ⟨h, n, hn⟩
    · exact h
    · obtain ⟨d', h1, h2⟩ := zds_min hT ha hD hn
      rw [e] at h1; cases h1
  | some d =>
    have hd := (hD.2.1 b d e).2
    obtain ⟨n, hn⟩ := zds_walk hT hD (d + 1) b d (by omega) e
    have h1 := zs_le hT hcl n a d ha hn (by omega)
    show s b = d
    rcases hw b hb with h | ⟨h, n2, hn2⟩
    · omega
    · obtain ⟨d', h2, h3⟩ := zds_min hT ha hD hn2
      rw [e] at h2
      cases h2
      omega
theorem m_fs33 {J : zI} {ns : Nat} {T : Nat → Nat → Option (Nat × Nat)} (hT : wT ns T) (hM : mT J ns T) {a : Nat} (ha : a < 2 * ns) {D : Nat → Option Nat} (hD : zds ns T a D) : ∀ (m r fuel : Nat) (V : zI) (s : Nat → Nat), r + m = 17 → m + 2 ≤ fuel → (∀ p, p < 16 → V 9 p = nI (s p)) → (∀ c j, c ≠ 7 → c ≠ 8 → c ≠ 9 → ¬ (c = 0 ∧ (j = 14 ∨ j = 15)) → V c j = J c j) → zsw T a s → s a = 0 → (∀ b d, D b = some d → zrk D d < r → s b ≤ d) → ∃ V', fm_findSoonest_L33 fuel 1 V = some V' ∧ (∀ b, b < 16 → V' 9 b = nI (zsv (D b))) ∧ ∀ c j, c ≠ 7 → c ≠ 8 → c ≠ 9 → ¬ (c = 0 ∧ (j = 14 ∨ j = 15)) → V' c j = J c j := by
  have hns := hT.1
  intro m
  induction m with
  | zero =>
    intro r fuel V s hr hf h9 hV hw h0 hrk
    obtain ⟨f, rfl⟩ : ∃ f, fuel = f + 2 := ⟨fuel - 2, by omega⟩
    obtain ⟨V', s', v', q1, q2, q3, q4, q5, q6, q7⟩ := m_fs41 hT hM (a := a) (s0 := s) (fun (u15 : Int32) (J16 : zI) => fm_findSoonest_L33 (f + 1) u15 J16) (2 * ns) 0 100 V s 0 (by omega) (by omega) h9 hV ⟨hw, fun b hb => Nat.le_refl _, fun p e q h hQ => absurd hQ (by omega), Or.inl ⟨rfl, fun b hb => rfl⟩⟩
    have q1 : fm_findSoonest_L41 (fun (u15 : Int32) (J16 : zI) => fm_findSoonest_L33 (f + 1) u15 J16) 100 (0 : Int32) (0 : Int32) V = fm_findSoonest_L33 (f + 1) v' V' := q1
    rw [fm_findSoonest_L33, if_neg z10, q1]
    rcases q7 with ⟨rfl, q8⟩ | ⟨rfl, b, hb, q8⟩
    · refine ⟨V', by rw [fm_findSoonest_L33]; exact if_pos rfl, fun b hb => ?_, q3⟩
      rw [q2 b hb, zs_end hT ha hD q4 (by have := q5 a (by omega); omega) (fun p e q h hp he ht hs => by
        have hq := hT.2 p e (q, h) hp he ht
        simp only at hq
        rw [q8 p (by omega)] at hs ⊢
        exact q6 p e q h hp hp he ht hs) hb]
    · exfalso
      rcases q4 b hb with h | ⟨h, n, hn⟩
      · rcases hw b hb with h2 | h2 <;> omega
      · obtain ⟨d', k1, k2⟩ := zds_min hT ha hD hn
        have hz := zsum_le (p := fun q => match D q with
          | none => false
          | some x => decide (x < d')) (g := fun _ => 1) (fun _ => Nat.le_refl _) 16
        have := hrk b d' k1 (by unfold zrk; omega)
        omega
  | succ m ih =>
    intro r fuel V s hr hf h9 hV hw h0 hrk
    obtain ⟨f, rfl⟩ : ∃ f, fuel = f + 2 := ⟨fuel - 2, by omega⟩
    obtain ⟨V', s', v', q1, q2, q3, q4, q5, q6, q7⟩ := m_fs41 hT hM (a := a) (s0 := s) (fun (u15 : Int32) (J16 : zI) => fm_findSoonest_L33 (f + 1) u15 J16) (2 * ns) 0 100 V s 0 (by omega) (by omega) h9 hV ⟨hw, fun b hb => Nat.le_refl _, fun p e q h hQ => absurd hQ (by omega), Or.inl ⟨rfl, fun b hb => rfl⟩⟩
    have ha0 : s' a = 0 := by have := q5 a (by omega); omega
    have q1 : fm_findSoonest_L41 (fun (u15 : Int32) (J16 : zI) => fm_findSoonest_L33 (f + 1) u15 J16) 100 (0 : Int32) (0 : Int32) V = fm_findSoonest_L33 (f + 1) v' V' := q1
    rw [fm_findSoonest_L33, if_neg z10, q1]
    rcases q7 with ⟨rfl, q8⟩ | ⟨rfl, b, hb, q8⟩
    · refine ⟨V', by rw [fm_findSoonest_L33]; exact if_pos rfl, fun b hb => ?_, q3⟩
      rw [q2 b hb, zs_end hT ha hD q4 ha0 (fun p e q h hp he ht hs => by
        have hq := hT.2 p e (q, h) hp he ht
        simp only at hq
        rw [q8 p (by omega)] at hs ⊢
        exact q6 p e q h hp hp he ht hs) hb]
    · refine ih (r + 1) (f + 1) V' s' (by omega) (by omega) q2 q3 q4 ha0 (fun b2 d hb2 hd => ?_)
      by_cases hba : b2 = a
      · rw [hba, ha0]; exact Nat.zero_le _
      · obtain ⟨p, e, h, d', k1, k2, k3, k4, k5⟩ := hD.2.2.2 b2 d hba hb2
        have hh := (hT.2 p e (b2, h) k1 k2 k3).2.1
        simp only at hh
        have hl := zrk_lt k4 (by omega) (show d' < d by omega)
        have hs := hrk p d' k4 (by omega)
        have hd2 := (hD.2.1 p d' k4).2
        have := q6 p e b2 h k1 k1 k2 k3 (by omega)
        omega
theorem m_fs2 {J : zI} {ns : Nat} {T : Nat → Nat → Option (Nat × Nat)} (hT : wT ns T) (hM : mT J ns T) {a : Nat} (ha : a < 2 * ns) {D : Nat → Option Nat} (hD : zds ns T a D) : ∀ (m k fuel : Nat) (V : zI), k + m = 16 → m < fuel → (∀ p, p < k → V 9 p = nI (if p = a then 0 else 100000000)) → (∀ c j, c ≠ 7 → c ≠ 8 → c ≠ 9 → ¬ (c = 0 ∧ (j = 14 ∨ j = 15)) → V c j = J c j) → ∃ V', fm_findSoonest_L2 fuel (nI a) (nI k) V = some V' ∧ (∀ b, b < 16 → V' 9 b = nI (zsv (D b))) ∧ ∀ c j, c ≠ 7 → c ≠ 8 → c ≠ 9 → ¬ (c = 0 ∧ (j = 14 ∨ j = 15)) → V' c j = J c j := by
  have hns := hT.1
  intro m
  induction m with
  | zero =>
    intro k fuel V hk hf h9 hV
    obtain ⟨f, rfl⟩ : ∃ f, fuel = f + 1 := ⟨fuel - 1, by omega⟩
    have hk4 : k = 16 := by omega
    subst hk4
    rw [fm_findSoonest_L2, if_pos (show (16 : Int32) ≤ nI 16 by decide)]
    refine m_fs33 hT hM ha hD 17 0 100 V (fun p => if p = a then 0 else 100000000) (by omega) (by omega) h9 hV (fun b hb => ?_) (if_pos rfl) (fun b d hb hd => by omega)
    by_cases hba : b = a
    · subst hba
      exact Or.inr ⟨by simp, 0, by simp [zwlk]⟩
    · exact Or.inl (if_neg hba)
  | succ m ih =>
    intro k fuel V hk hf h9 hV
    obtain ⟨f, rfl⟩ : ∃ f, fuel = f + 1 := ⟨fuel - 1, by omega⟩
    have hx : ∀ x : Int32, x = nI (if k = a then 0 else 100000000) → ∃ V', fm_findSoonest_L2 f (nI a) (nI (k + 1)) (zup V 9 k x) = some V' ∧ (∀ b, b < 16 → V' 9 b = nI (zsv (D b))) ∧ ∀ c j, c ≠ 7 → c ≠ 8 → c ≠ 9 → ¬ (c = 0 ∧ (j = 14 ∨ j = 15)) → V' c j = J c j := fun x hx =>
      ih (k + 1) f (zup V 9 k x) (by omega) (by omega) (fun p hp => by
        by_cases hpk : p = k
        · subst hpk; rw [zup_y, hx]
        · rw [zup_o (by omega)]; exact h9 p (by omega)) (fun c j h1 h2 h3 h4 => by rw [zup_o (by omega)]; exact hV c j h1 h2 h3 h4)
    rw [fm_findSoonest_L2, if_neg (show ¬ (16 : Int32) ≤ nI k from nI_ge (b := 16) (by omega) (by omega)), zl_b (by omega), show decide (k < 16) = true from decide_eq_true (by omega), zl_cl k (by omega), nI_1]
    simp only [z_guard, if_true]
    by_cases hka : k = a
    · rw [if_pos (show nI k = nI a by rw [hka])]
      exact hx 0 (by rw [if_pos hka]; rfl)
    · rw [if_neg (show ¬ nI k = nI a from fun e => hka ((nI_eq (by omega) (by omega)).mp e))]
      exact hx 100000000 (by rw [if_neg hka]; rfl)
theorem m_findS {J : zI} {ns : Nat} {T : Nat → Nat → Option (Nat × Nat)} (hT : wT ns T) (hM : mT J ns T) {a : Nat} (ha : a < 2 * ns) {D : Nat → Option Nat} (hD : zds ns T a D) : ∃ V', fm_findSoonest J (nI a) = some V' ∧ (∀ b, b < 16 → V' 9 b = nI (zsv (D b))) ∧ ∀ c j, c ≠ 7 → c ≠ 8 → c ≠ 9 → ¬ (c = 0 ∧ (j = 14 ∨ j = 15)) → V' c j = J c j :=
  m_fs2 hT hM ha hD 16 0 100 J (by omega) (by omega) (fun p hp => by omega) (fun _ _ _ _ _ _ => rfl)
theorem m_soonOf {J : zI} {ns : Nat} {T : Nat → Nat → Option (Nat × Nat)} (hT : wT ns T) (hM : mT J ns T) {a b : Nat} (ha : a < 2 * ns) (hb : b < 16) {D : Nat → Option Nat} (hD : zds ns T a D) : ∃ V', fm_soonestOf J (nI a) (nI b) = some (nI (zsv (D b)), V') ∧ ∀ c j, c ≠ 7 → c ≠ 8 → c ≠ 9 → ¬ (c = 0 ∧ (j = 14 ∨ j = 15)) → V' c j = J c j := by
  obtain ⟨V', h1, h2, h3⟩ := m_findS hT hM ha hD
  refine ⟨V', ?_, h3⟩
  unfold fm_soonestOf
  rw [h1, Option.bind_some, zl_b (by omega), show decide (b < 16) = true from decide_eq_true hb, zl_cl b (by omega), h2 b hb]
  rfl
