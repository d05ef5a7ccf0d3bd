/-! parts; land, plain -/
def zpi (k ns : Nat) (ea eb tt : Nat → Nat) (f : Nat → Nat) : Prop := zlw ns f ∧ (∀ i j, i < ns → j < ns → f i = f j → ∃ x, zqh k ea eb tt (fun _ => false) i j x) ∧ ∀ j, j < k → f (ea j / 4) = f (eb j / 4)
theorem zpi_un {k ns : Nat} {ea eb tt : Nat → Nat} {f : Nat → Nat} (h : zpi k ns ea eb tt f) (ha : ea k / 4 < ns) (hb : eb k / 4 < ns) : zpi (k + 1) ns ea eb tt (zun f (ea k / 4) (eb k / 4)) := by
  obtain ⟨h1, h2, h3⟩ := h
  refine ⟨zun_lw h1 ha, fun i j hi hj e => ?_, fun j hj => ?_⟩
  · have old : f i = f j → ∃ x, zqh (k + 1) ea eb tt (fun _ => false) i j x := fun e => by
      obtain ⟨x, hx⟩ := h2 i j hi hj e
      exact ⟨x, zqh_mono (by omega) hx⟩
    have go : ∀ i j, i < ns → j < ns → f i = f (ea k / 4) → f j = f (eb k / 4) → ∃ x, zqh (k + 1) ea eb tt (fun _ => false) i j x := fun i j hi hj q1 q2 => by
      obtain ⟨x, hx⟩ := h2 i (ea k / 4) hi ha q1
      obtain ⟨y, hy⟩ := h2 (eb k / 4) j hb hj q2.symm
      exact ⟨_, zqh_trans (zqh_trans (zqh_mono (show k ≤ k + 1 by omega) hx) (zqh_join (j := k) (by omega) rfl)) (zqh_mono (show k ≤ k + 1 by omega) hy)⟩
    rcases zun_eq.mp e with e | ⟨e1 | e1, e2 | e2⟩
    · exact old e
    · exact old (by omega)
    · exact go i j hi hj e1 e2
    · obtain ⟨x, hx⟩ := go j i hj hi e2 e1
      exact ⟨x, zqh_sym hx⟩
    · exact old (by omega)
  · by_cases e : j = k
    · subst e
      exact zun_eq.mpr (Or.inr ⟨Or.inl rfl, Or.inr rfl⟩)
    · exact zun_eq.mpr (Or.inl (h3 j (by omega)))
theorem zpi_eq {nj ns : Nat} {ea eb tt : Nat → Nat} {f : Nat → Nat} (h : zpi nj ns ea eb tt f) {a b : Nat} {x : Bool} (hq : zqh nj ea eb tt (fun _ => false) a b x) : f a = f b := by
  obtain ⟨n, hn⟩ := hq
  induction n generalizing b x with
  | zero =>
    obtain ⟨rfl, rfl⟩ := hn
    rfl
  | succ n ih =>
    obtain ⟨p, y, z, k1, ⟨j, j1, j2, j3, j4⟩, rfl⟩ := hn
    have i1 := ih k1
    have q1 := h.2.2 j j1
    rcases j3 with ⟨rfl, rfl⟩ | ⟨rfl, rfl⟩ <;> omega
theorem c_parts_L {ns nj : Nat} {cs ea eb tt : Nat → Nat} (hG : wfG ns nj cs ea eb tt) : ∀ (m k fuel : Nat) (V : zI) (f : Nat → Nat), k + m = nj → m < fuel → gC V ns nj cs ea eb tt → (∀ i, i < ns → V 102 i = nI (f i)) → zpi k ns ea eb tt f → ∃ V' f', fc_Shape_parts_L10 fuel (nI k) V = some (nI (zsum (fun i => f' i == i) (fun _ => 1) ns), V') ∧ zpi nj ns ea eb tt f' ∧ ∀ c j, c ≠ 102 → V' c j = V c j := by
  have hns := hG.1
  have hnj := hG.2.1
  intro m
  induction m with
  | zero =>
    intro k fuel V f hk hf hV h2 hz
    obtain ⟨F, rfl⟩ : ∃ g, fuel = g + 1 := ⟨fuel - 1, by omega⟩
    have : k = nj := by omega
    subst this
    have hL : fc_Shape_labelsLeft V (nI ns) = some (nI (zsum (fun i => f i == i) (fun _ => 1) ns)) := c_left_L (by omega) (fun i hi => ⟨h2 i hi, by have := (hz.1 i hi).1; omega⟩) ns 0 100 (by omega) (by omega)
    refine ⟨V, f, ?_, hz, fun _ _ _ => rfl⟩
    rw [fc_Shape_parts_L10, hV.2.1, if_pos (nI_le (by omega) (by omega)), hV.1, hL]
    rfl
  | succ m ih =>
    intro k fuel V f hk hf hV h2 hz
    obtain ⟨F, rfl⟩ : ∃ g, fuel = g + 1 := ⟨fuel - 1, by omega⟩
    obtain ⟨a1, a2, a3, a4⟩ := hG.2.2.2.1 k (by omega)
    obtain ⟨b1, b2, b3⟩ := hV.2.2.2.1 k (by omega)
    have ha : ea k / 4 < ns := by omega
    have hb : eb k / 4 < ns := by omega
    obtain ⟨V1, r1, r2, r3⟩ := c_makeOne (V := V) (show ns ≤ 32 by omega) hz.1 ha hb h2
    obtain ⟨V', f', q1, q2, q3⟩ := ih (k + 1) F V1 _ (by omega) (by omega) (gC_cg hV (fun c j h1 h2 => r3 c j (by omega))) r2 (zpi_un hz ha hb)
    refine ⟨V', f', ?_, q2, fun c j hc => by rw [q3 c j hc, r3 c j hc]⟩
    rw [fc_Shape_parts_L10, hV.2.1, if_neg (nI_ge (by omega) (by omega)), show (2 : Int32) * nI k = nI (2 * k) from zl_mul 2 k, nI_1, nI_1, zl_b (by omega), show decide (2 * k < 32) = true from decide_eq_true (by omega), zl_b (by omega), show decide (2 * k + 1 < 32) = true from decide_eq_true (by omega), zl_cl _ (by omega), zl_cl _ (by omega), b1, b2, show nI (ea k) / (4 : Int32) = nI (ea k / 4) from zl_div (ea k) 4 (by omega) (by omega) (by omega), show nI (eb k) / (4 : Int32) = nI (eb k / 4) from zl_div (eb k) 4 (by omega) (by omega) (by omega), hV.1, r1]
    exact q1
theorem c_parts {V : zI} {ns nj : Nat} {cs ea eb tt : Nat → Nat} (hG : wfG ns nj cs ea eb tt) (hV : gC V ns nj cs ea eb tt) : ∃ V' f', fc_Shape_parts V = some (nI (zsum (fun i => f' i == i) (fun _ => 1) ns), V') ∧ zpi nj ns ea eb tt f' ∧ ∀ c j, c ≠ 102 → V' c j = V c j := by
  have hns := hG.1
  have hnj := hG.2.1
  obtain ⟨V1, r1, r2, r3⟩ := c_begin (V := V) (N := ns) (by omega)
  obtain ⟨V', f', q1, q2, q3⟩ := c_parts_L hG nj 0 100 V1 (fun i => i) (by omega) (by omega) (gC_cg hV (fun c j h1 h2 => r3 c j (by omega))) r2 ⟨fun i hi => ⟨hi, rfl⟩, fun i j hi hj e => by
    have e : i = j := e
    subst e
    exact ⟨false, zqh_refl i⟩, fun j hj => absurd hj (Nat.not_lt_zero j)⟩
  refine ⟨V', f', ?_, q2, fun c j hc => by rw [q3 c j hc, r3 c j hc]⟩
  unfold fc_Shape_parts
  rw [hV.1, r1, Option.bind_some]
  exact q1
def zfst (P : Nat → Bool) : Nat → Nat
  | 0 => 0
  | n + 1 => if zany P n then zfst P n else n
theorem zfst_s {P : Nat → Bool} : ∀ n, zany P n = true → zfst P n < n ∧ P (zfst P n) = true ∧ zany P (zfst P n) = false
  | 0, h => by cases h
  | n + 1, h => by
    rw [zfst]
    cases e : zany P n with
    | true =>
      obtain ⟨h1, h2, h3⟩ := zfst_s n e
      rw [if_pos rfl]
      exact ⟨by omega, h2, h3⟩
    | false =>
      rw [zany, e, Bool.false_or] at h
      rw [if_neg (by decide)]
      exact ⟨by omega, h, e⟩
theorem zfixed {N : Nat} {f : Nat → Nat} (hf : zlw N f) : zsum (fun i => f i == i) (fun _ => 1) N = zsum (fun s => !zany (fun k => f k == f s) s) (fun _ => 1) N := by
  have hfi : ∀ s, s < N → zany (fun k => f k == f s) N = true := fun s hs => (zany_i N).mpr ⟨s, hs, beq_iff_eq.mpr rfl⟩
  apply Nat.le_antisymm
  · refine zinj N _ _ (fun s => zfst (fun k => f k == f s) N) (fun i hi hp => ?_) (fun i j hi hj hp hq e => ?_)
    · obtain ⟨h1, h2, h3⟩ := zfst_s N (hfi i hi)
      refine ⟨h1, ?_⟩
      have h2 := beq_iff_eq.mp h2
      show (!zany (fun k => f k == f (zfst (fun k => f k == f i) N)) (zfst (fun k => f k == f i) N)) = true
      rw [h2, h3]; rfl
    · obtain ⟨h1, h2, h3⟩ := zfst_s N (hfi i hi)
      obtain ⟨k1, k2, k3⟩ := zfst_s N (hfi j hj)
      have h2 := beq_iff_eq.mp h2
      have k2 := beq_iff_eq.mp k2
      have p1 := beq_iff_eq.mp hp
      have p2 := beq_iff_eq.mp hq
      have e : zfst (fun k => f k == f i) N = zfst (fun k => f k == f j) N := e
      rw [e] at h2
      omega
  · refine zinj N _ _ f (fun i hi hp => ⟨(hf i hi).1, beq_iff_eq.mpr (hf i hi).2⟩) (fun i j hi hj hp hq e => ?_)
    have p1 : zany (fun k => f k == f i) i = false := by
      have hp : (!zany (fun k => f k == f i) i) = true := hp
      revert hp
      cases zany (fun k => f k == f i) i <;> decide
    have p2 : zany (fun k => f k == f j) j = false := by
      have hq : (!zany (fun k => f k == f j) j) = true := hq
      revert hq
      cases zany (fun k => f k == f j) j <;> decide
    rcases Nat.lt_trichotomy i j with h | h | h
    · have := (zany_i (P := fun k => f k == f j) j).mpr ⟨i, h, beq_iff_eq.mpr e⟩
      rw [p2] at this; cases this
    · exact h
    · have := (zany_i (P := fun k => f k == f i) i).mpr ⟨j, h, beq_iff_eq.mpr e.symm⟩
      rw [p1] at this; cases this
theorem m_parts30 {J : zI} {R s : Nat} {P : Nat → Bool} (hR : R < 65536) (hs : s < 8) (hP : ∀ k, k < s → (P k = true ↔ R.testBit (2 * k) = true ∨ R.testBit (2 * k + 1) = true)) (K : Int32 → Int32 → Int32 → Option Int32) (v1 : Int32) : ∀ (m k fuel : Nat), k + m = s → m < fuel → fm_parts_L30 J K fuel v1 (nI s) (nI R) (if zany P k then 0 else 1) (nI k) = K v1 (nI s) (if zany P s then 0 else 1)
  | 0, k, fuel, hk, hf => by
    obtain ⟨F, rfl⟩ : ∃ g, fuel = g + 1 := ⟨fuel - 1, by omega⟩
    rw [fm_parts_L30, if_pos (nI_le (by omega) (by omega)), show k = s by omega]
  | m + 1, k, fuel, hk, hf => by
    obtain ⟨F, rfl⟩ : ∃ g, fuel = g + 1 := ⟨fuel - 1, by omega⟩
    have i1 := m_parts30 (J := J) hR hs hP K v1 m (k + 1) F (by omega) (by omega)
    have hp := hP k (by omega)
    have f1 : (if true = true then (0 : Int32) else 1) = 0 := if_pos rfl
    have f0 : (if false = true then (0 : Int32) else 1) = 1 := if_neg (by decide)
    have g1 : (if true = true then (1 : Int32) else 0) = 1 := if_pos rfl
    have g0 : (if false = true then (1 : Int32) else 0) = 0 := if_neg (by decide)
    rw [zany] at i1
    rw [fm_parts_L30, if_neg (nI_ge (by omega) (by omega)), nI_1]
    cases e : zany P k with
    | true =>
      rw [e, Bool.true_or, f1] at i1
      rw [f1, if_pos rfl]
      exact i1
    | false =>
      rw [e, Bool.false_or] at i1
      rw [f0, if_neg z10, show (2 : Int32) * nI k = nI (2 * k) from zl_mul 2 k, nI_1, m_has J hR (by omega), m_has J hR (by omega), Option.bind_some, Option.bind_some]
      cases e1 : R.testBit (2 * k) with
      | true =>
        rw [hp.mpr (Or.inl e1), f1] at i1
        rw [g1, if_neg z10]
        exact i1
      | false =>
        rw [g0, if_pos rfl]
        cases e2 : R.testBit (2 * k + 1) with
        | true =>
          rw [hp.mpr (Or.inr e2), f1] at i1
          rw [g1, if_neg z10]
          exact i1
        | false =>
          have hpf : P k = false := by
            cases e3 : P k with
            | false => rfl
            | true =>
              rcases hp.mp e3 with h | h
              · rw [e1] at h; cases h
              · rw [e2] at h; cases h
          rw [hpf, f0] at i1
          rw [g0, if_pos rfl]
          exact i1
theorem m_parts_L {J : zI} {ns nj : Nat} {cs ea eb tt : Nat → Nat} (hG : wfG ns nj cs ea eb tt) (hg : gM (J 1) ns nj cs ea eb tt) {f : Nat → Nat} (hz : zpi nj ns ea eb tt f) : ∀ (m s fuel : Nat), s + m = ns → m < fuel → fm_parts_L4 J fuel (nI (zsum (fun s => !zany (fun k => f k == f s) s) (fun _ => 1) s)) (nI s) = some (nI (zsum (fun s => !zany (fun k => f k == f s) s) (fun _ => 1) ns)) := by
  have hns := hG.1
  have hnj := hG.2.1
  intro m
  induction m with
  | zero =>
    intro s fuel hs hf
    obtain ⟨F, rfl⟩ : ∃ g, fuel = g + 1 := ⟨fuel - 1, by omega⟩
    rw [fm_parts_L4, zcl0, hg.1, if_pos (nI_le (by omega) (by omega)), show s = ns by omega]
  | succ m ih =>
    intro s fuel hs hf
    obtain ⟨F, rfl⟩ : ∃ g, fuel = g + 1 := ⟨fuel - 1, by omega⟩
    have i1 := ih (s + 1) F (by omega) (by omega)
    obtain ⟨R, r1, r2, r3, r4⟩ := m_reachQ (v2 := -1) (v3 := -1) hG hg (X := fun _ => false) (fun j hj => ⟨fun e => (by cases e), fun e => (by
      have hm := zl_eqm1 (n := j) (by omega)
      rcases e with e | e <;> rw [hm] at e <;> exact e.elim)⟩) (s := s) (by omega)
    have hP : ∀ k, k < s → ((fun k => f k == f s) k = true ↔ R.testBit (2 * k) = true ∨ R.testBit (2 * k + 1) = true) := fun k hk => by
      show (f k == f s) = true ↔ _
      rw [r3 k, r4 k, beq_iff_eq]
      constructor
      · intro e
        obtain ⟨x, hx⟩ := hz.2.1 s k (by omega) (by omega) e.symm
        cases x with
        | false => exact Or.inl hx
        | true => exact Or.inr hx
      · rintro (h | h)
        · exact (zpi_eq hz h).symm
        · exact (zpi_eq hz h).symm
    have r := m_parts30 (J := J) r1 (show s < 8 by omega) hP (fun (u12 : Int32) (u13 : Int32) (u14 : Int32) => if u14 = 0 then fm_parts_L4 J F (u12 + (0 : Int32)) (u13 + (1 : Int32)) else fm_parts_L4 J F (u12 + (1 : Int32)) (u13 + (1 : Int32))) (nI (zsum (fun s => !zany (fun k => f k == f s) s) (fun _ => 1) s)) s 0 100 (by omega) (by omega)
    have r' : fm_parts_L30 J (fun (u12 : Int32) (u13 : Int32) (u14 : Int32) => if u14 = 0 then fm_parts_L4 J F (u12 + (0 : Int32)) (u13 + (1 : Int32)) else fm_parts_L4 J F (u12 + (1 : Int32)) (u13 + (1 : Int32))) 100 (nI (zsum (fun s => !zany (fun k => f k == f s) s) (fun _ => 1) s)) (nI s) (nI R) (1 : Int32) (0 : Int32) = _ := r
    rw [fm_parts_L4, zcl0, hg.1, if_neg (nI_ge (by omega) (by omega)), r2, Option.bind_some, r', nI_1, nI_1, Int32.add_zero]
    have f1 : (if true = true then (0 : Int32) else 1) = 0 := if_pos rfl
    have f0 : (if false = true then (0 : Int32) else 1) = 1 := if_neg (by decide)
    cases e : zany (fun k => f k == f s) s with
    | true =>
      rw [f1, if_pos rfl]
      rw [zsum_0 (p := fun s => !zany (fun k => f k == f s) s) (n := s) (by rw [e]; rfl)] at i1
      exact i1
    | false =>
      rw [f0, if_neg z10]
      rw [zsum_1 (p := fun s => !zany (fun k => f k == f s) s) (n := s) (by rw [e]; rfl)] at i1
      exact i1
theorem rR_shape {I J I' J' : zI} (h : rR I J) (e : ∀ c j, c ≠ 102 → c ≠ 103 → I' c j = I c j) (e2 : ∀ c j, c ≠ 4 → J' c j = J c j) : rR I' J' :=
  rR_cg h (fun c k hc => e c k (by unfold zwrel zxrel at hc; omega) (by unfold zwrel zxrel at hc; omega)) (fun k _ => e2 1 k (by omega)) (fun c k hc => e2 c k (by unfold mxrel at hc; omega))
theorem zno_j {nj : Nat} (hnj : nj ≤ 16) : ∀ j, j < nj → ((fun _ : Nat => false) j = true ↔ nI j = -1 ∨ nI j = -1) := fun j hj => ⟨fun e => (by cases e), fun e => (by
  have hm := zl_eqm1 (n := j) (by omega)
  rcases e with e | e <;> rw [hm] at e <;> exact e.elim)⟩
theorem sim_land {I J : zI} (h : rR I J) (a : Int32) : zSim (fc_T_land I a) (fm_land J a) := by
  obtain ⟨⟨⟨ns, nj, cs, ea, eb, tt, nw, kd, bg, sp, mk, eg, np, pl, hr, nt, ly, wo, al, dm, nf, fw, fo, hG, hW, hF, hD⟩, hT, hP⟩, hX⟩ := id h
  obtain ⟨g1, g2, g3⟩ := id hG
  obtain ⟨c1, c2, c3, c4, c5⟩ := id g2
  obtain ⟨m1, m2, m3, m4⟩ := id g3
  have hns := g1.1
  have hnj := g1.2.1

  have hcor : ∃ x V' U', fc_Shape_corners I = some (x, V') ∧ fm_cornersNow J = some (x, U') ∧ (∀ c j, c ≠ 102 → V' c j = I c j) ∧ ∀ c j, c ≠ 4 → U' c j = J c j := by
    obtain ⟨V', U', f, g, r1, r2, ⟨r3, r4, r5⟩, r6, r7⟩ := zcorners g1 g2 g3
    have hL : fc_Shape_labelsLeft V' (nI (4 * ns)) = some (nI (zsum (fun i => f i == i) (fun _ => 1) (4 * ns))) := c_left_L (by omega) (fun i hi => ⟨r3 i hi, by have := (r5.1 i hi).1; omega⟩) (4 * ns) 0 100 (by omega) (by omega)
    have hM := m_left_L (U := U') (g := g) hns rfl (by rw [r7 1 0 (by omega)]; exact m1) (fun i hi => ⟨r4 i hi, by have := (r5.2.1 i hi).1; omega⟩) (4 * ns) 0 100 (by omega) (by omega)
    refine ⟨nI (zsum (fun i => f i == i) (fun _ => 1) (4 * ns)), V', U', ?_, ?_, r6, r7⟩
    · unfold fc_Shape_corners
      rw [r1, Option.bind_some, r6 2 0 (by omega), c1, show (4 : Int32) * nI ns = nI (4 * ns) from zl_mul 4 ns, hL]
      rfl
    · unfold fm_cornersNow
      rw [r2, Option.bind_some, zsm_cnt r5]
      exact hM
  unfold fc_T_land fm_land
  by_cases a0 : a = 0
  · obtain ⟨x, V', U', r1, r2, r3, r4⟩ := hcor
    rw [if_pos a0, if_pos a0, r1, r2, Option.bind_some, Option.bind_some]
    exact zSim_i rfl rfl (rR_shape h (fun c j h1 _ => r3 c j h1) r4)
  · rw [if_neg a0, if_neg a0]
    by_cases a1 : a = 1
    · rw [if_pos a1, if_pos a1]
      unfold fc_T_edgesOnce
      rw [Option.bind_some, zcl0, zcl1, c1, c2, m1, m2]
      exact zSim_i rfl rfl h
    · rw [if_neg a1, if_neg a1]
      by_cases a2 : a = 2
      · obtain ⟨x, V', U', r1, r2, r3, r4⟩ := hcor
        rw [if_pos a2, if_pos a2, r1, r2, Option.bind_some, Option.bind_some]
        unfold fc_T_edgesOnce
        rw [Option.bind_some, zcl0, zcl1, m1, m2]
        show zSim (some ((x - ((4 : Int32) * V' 2 0 - V' 2 2)) + V' 2 0, V')) (some ((x - ((4 : Int32) * nI ns - nI nj)) + U' 1 0, U'))
        rw [r3 2 0 (by omega), r3 2 2 (by omega), c1, c2, r4 1 0 (by omega), m1]
        exact zSim_i rfl rfl (rR_shape h (fun c j h1 _ => r3 c j h1) r4)
      · rw [if_neg a2, if_neg a2]
        by_cases a3 : a = 3
        · obtain ⟨V', f, r1, r2, r3⟩ := c_parts g1 g2
          have hM : fm_parts J = some (nI (zsum (fun s => !zany (fun k => f k == f s) s) (fun _ => 1) ns)) := m_parts_L g1 g3 r2 ns 0 100 (by omega) (by omega)
          rw [if_pos a3, if_pos a3, r1, hM, Option.bind_some, Option.bind_some, zfixed r2.1]
          exact zSim_i rfl rfl (rR_shape h (fun c j h1 _ => r3 c j h1) (fun _ _ _ => rfl))
        · rw [if_neg a3, if_neg a3]
          by_cases a4 : a = 4
          · rw [if_pos a4, if_pos a4]
            obtain ⟨V1, U1, f, g, r1, r2, r3, r6, r7⟩ := zcorners g1 g2 g3
            obtain ⟨V', U', f', g', w1, w2, ⟨w3, w4, w5⟩, w6, w7⟩ := zrim_L g1 rfl (4 * ns) 0 100 100 V1 U1 f g (by omega) (by omega) (by omega) (gC_cg g2 (fun c j h1 h2 => r6 c j (by omega))) (gM_cg ⟨hns, hnj⟩ g3 (fun j _ => r7 1 j (by omega))) r3
            have hj : ∀ e j, jn ea eb nj e = some j → j < 16 := fun e j h => by have := (jn_some h).1; omega
            have hV' : gC V' ns nj cs ea eb tt := gC_cg g2 (fun c j h1 h2 => by rw [w6 c j (by omega), r6 c j (by omega)])
            have hU' : gM (U' 1) ns nj cs ea eb tt := gM_cg ⟨hns, hnj⟩ g3 (fun j _ => by rw [w7 1 j (by omega), r7 1 j (by omega)])
            obtain ⟨R, q1, q2⟩ := c_ring (V := V') (f := f') (jt := fun e => jn ea eb nj e) (show 4 * ns ≤ 32 by omega) (fun i hi => ⟨w3 i hi, by have := (w5.1 i hi).1; omega, hV'.2.2.2.2 i (by omega)⟩) hj (4 * ns) 0 100 0 (by omega) (by omega) (by omega) (fun c => by rw [Nat.zero_testBit]; exact ⟨fun e => (by cases e), fun hh => by obtain ⟨e, h1, _⟩ := hh; omega⟩)
            have q3 := m_ring47 (U := U') (g := g') (jt := fun e => jn ea eb nj e) (show 4 * ns ≤ 32 by omega) (fun i hi => ⟨w4 i hi, by have := (w5.2.1 i hi).1; omega, m_joinAt g1 hU' (by omega)⟩) hj (4 * ns) 0 100 (by omega) (by omega)
            have hC : fc_Shape_rims I = some (nI (zsum (fun q => R.testBit q) (fun _ => 1) 32), V') := by
              unfold fc_Shape_rims
              rw [r1, Option.bind_some, c1, show (4 : Int32) * nI ns = nI (4 * ns) from zl_mul 4 ns, show (0 : Int32) = nI 0 from rfl, w1]
              exact q2
            have hM : fm_rims J = some (nI (zsum (fun c => zany (zrq (fun e => jn ea eb nj e) g' c) (4 * ns)) (fun _ => 1) (4 * ns)), U') := by
              unfold fm_rims
              rw [r2, Option.bind_some, zcl0, r7 1 0 (by omega), m1, show (4 : Int32) * nI ns = nI (4 * ns) from zl_mul 4 ns, show (0 : Int32) = nI 0 from rfl, w2]
              exact q3
            rw [hC, hM, Option.bind_some, Option.bind_some, zrings (by omega) w5 q1]
            exact zSim_i rfl rfl (rR_shape h (fun c j h1 _ => (w6 c j h1).trans (r6 c j h1)) (fun c j h1 => (w7 c j h1).trans (r7 c j h1)))
          · rw [if_neg a4, if_neg a4]
            by_cases a5 : a = 5
            · obtain ⟨r, V', q1, q2, q3⟩ := c_home (mask := 0) g1 g2 (by omega) (X := fun _ => false) (fun j hj => by rw [Nat.zero_testBit])
              obtain ⟨s, p1, p2⟩ := m_comes (v1 := -1) (v2 := -1) g1 g3 (zno_j hnj)
              have hrs : r = s := by
                rcases q2 with ⟨e1, e2⟩ | ⟨e1, e2⟩ <;> rcases p2 with ⟨e3, e4⟩ | ⟨e3, e4⟩
                · rw [e1, e3]
                · exact absurd e2 e4
                · exact absurd e4 e2
                · rw [e1, e3]
              rw [if_pos a5, if_pos a5, show fc_Shape_turnsHome I (0 : Int32) = _ from q1, p1, Option.bind_some, Option.bind_some, ← hrs]
              have hR := rR_shape h q3 (fun _ _ _ => rfl)
              by_cases hr : r = 0
              · rw [if_pos hr, if_pos hr]; exact zSim_i rfl rfl hR
              · rw [if_neg hr, if_neg hr]; exact zSim_i rfl rfl hR
            · rw [if_neg a5, if_neg a5]
              exact zSim_e (zsim_err h (k := 1) (by omega) (by omega) rfl (by decide))
