/-! texts: both readers at the same place, with the same parts behind them -/
def znn (u : Nat) : Nat := if u = 0 then 4 else 3
def zgd (u n o : Nat) (b : Nat → Nat) (p : Nat) (l : List (Nat × Nat)) (V U : zI) : Prop := (n ≤ 60 ∧ p ≤ n ∧ l.length ≤ p ∧ u < 2 ∧ o ≤ 5 ∧ ∀ k, k < n → b k < 256) ∧ (V 180 2 = nI l.length ∧ V 180 3 = nI p ∧ V 180 5 = nI n ∧ V 180 6 = nI u ∧ (∀ k, k < n → V 183 k = nI (b k)) ∧ ∀ k, k < l.length → V 181 k = nI (l.reverse.getD k (0, 0)).1 ∧ V 182 k = nI (l.reverse.getD k (0, 0)).2) ∧ (U 0 11 = nI l.length ∧ U 0 6 = nI p ∧ U 1 6 = nI n ∧ U 0 8 = nI u ∧ U 0 7 = nI o ∧ U 0 9 = 0 ∧ (∀ k, k < n → U 1 (240 + k) = nI (b k)) ∧ ∀ k, k < l.length → U 6 k = nI (zop (l.reverse.getD k (0, 0))))
def zfr (V V' : zI) : Prop := ∀ c j, ¬ (c = 180 ∧ (j = 2 ∨ j = 3)) → c ≠ 181 → c ≠ 182 → V' c j = V c j
def mfr (U U' : zI) : Prop := ∀ c j, ¬ (c = 0 ∧ (j = 6 ∨ j = 7 ∨ j = 9 ∨ j = 11)) → c ≠ 6 → U' c j = U c j
theorem zfr_t {V V' V'' : zI} (h : zfr V V') (h2 : zfr V' V'') : zfr V V'' := fun c j a1 a2 a3 => by rw [h2 c j a1 a2 a3, h c j a1 a2 a3]
theorem mfr_t {U U' U'' : zI} (h : mfr U U') (h2 : mfr U' U'') : mfr U U'' := fun c j a1 a2 => by rw [h2 c j a1 a2, h c j a1 a2]
def zpn (b : Nat → Nat) (n p : Nat) : Option Nat := if p < n then some (b p) else none
theorem zpn_n {b : Nat → Nat} {n p : Nat} (h : zpn b n p = none) : ¬ p < n := fun e => by unfold zpn at h; rw [if_pos e] at h; cases h
theorem zpn_s {b : Nat → Nat} {n p s : Nat} (h : zpn b n p = some s) : p < n ∧ b p = s := by
  unfold zpn at h
  by_cases e : p < n
  · rw [if_pos e] at h; cases h; exact ⟨e, rfl⟩
  · rw [if_neg e] at h; cases h
theorem c_next {u n o p : Nat} {b : Nat → Nat} {l : List (Nat × Nat)} {V U : zI} (h : zgd u n o b p l V U) : fc_Reader_next V = some (zov (zpn b n p)) := by
  obtain ⟨⟨a1, a2, a3, a4, a5, a6⟩, ⟨b1, b2, b3, b4, b5, b6⟩, _⟩ := h
  unfold fc_Reader_next zpn
  rw [b3, b2]
  by_cases hp : p < n
  · rw [if_pos hp, if_neg (nI_ge hp (by omega)), if_neg (show ¬ (60 : Int32) ≤ nI p from nI_ge (b := 60) (by omega) (by omega)), zl_b (by omega), show decide (p < 60) = true from decide_eq_true (by omega), zl_cl p (by omega), b5 p hp]
    rfl
  · rw [if_neg hp, if_pos (nI_le (by omega) (by omega))]
    rfl
theorem m_here {u n o p : Nat} {b : Nat → Nat} {l : List (Nat × Nat)} {V U : zI} (h : zgd u n o b p l V U) : fm_here U = some (zov (zpn b n p)) := by
  obtain ⟨⟨a1, a2, a3, a4, a5, a6⟩, _, ⟨b1, b2, b3, b4, b5, b6, b7, b8⟩⟩ := h
  unfold fm_here zpn
  rw [b6, if_pos rfl, show (6 : Int32).toNatClampNeg = 6 from by decide, b3, b2]
  by_cases hp : p < n
  · rw [if_pos hp, if_neg (nI_ge hp (by omega)), show (240 : Int32) + nI p = nI (240 + p) from zl_add 240 p, zl_b (by omega), show decide (240 + p < 448) = true from decide_eq_true (by omega), zl_cl _ (by omega), b7 p hp]
    rfl
  · rw [if_neg hp, if_pos (nI_le (by omega) (by omega))]
    rfl
theorem m_here_w {U : zI} (h : U 0 9 = 1) : fm_here U = some (zov none) := by
  unfold fm_here
  rw [h, if_neg z10]
  rfl
theorem m_codes_w {U : zI} (h : U 0 9 = 1) (x : Int32) : fm_codes U x = some U := by
  unfold fm_codes
  rw [h, if_neg z10]
theorem zup_id {U : zI} {i k : Nat} : zup U i k (U i k + 0) = U := by
  funext c j
  unfold zup
  by_cases h : c = i ∧ j = k
  · rw [if_pos h, Int32.add_zero, h.1, h.2]
  · rw [if_neg h]
theorem m_takes_n {U : zI} {x : Option Nat} {c : Int32} (h : fm_here U = some (zov x)) (hx : zov x ≠ c) : fm_takes U c = some (0, U) := by
  unfold fm_takes
  rw [h, Option.bind_some, if_neg hx, zup_id]
theorem m_takes_y {U : zI} {c : Int32} (h : fm_here U = some c) : fm_takes U c = some (1, zup U 0 6 (U 0 6 + 1)) := by
  unfold fm_takes
  rw [h, Option.bind_some, if_pos rfl]
theorem zov_ne {x : Option Nat} {c : Nat} (hc : c < 256) (h : ∀ s, x = some s → s < 256 ∧ s ≠ c) : zov x ≠ nI c := by
  cases x with
  | none => exact fun e => by have := (zl_eqm1 (n := c) (by omega)); rw [← e] at this; exact this.mp rfl
  | some s =>
    obtain ⟨h1, h2⟩ := h s rfl
    exact fun e => h2 ((nI_eq (by omega) (by omega)).mp e)
theorem zgd_adv {u n o p : Nat} {b : Nat → Nat} {l : List (Nat × Nat)} {V U : zI} (h : zgd u n o b p l V U) (hp : p < n) : zgd u n o b (p + 1) l (zup V 180 3 (V 180 3 + 1)) (zup U 0 6 (U 0 6 + 1)) := by
  obtain ⟨⟨a1, a2, a3, a4, a5, a6⟩, ⟨b1, b2, b3, b4, b5, b6⟩, ⟨d1, d2, d3, d4, d5, d6, d7, d8⟩⟩ := h
  refine ⟨⟨a1, by omega, by omega, a4, a5, a6⟩, ⟨by rw [zup_o (by omega)]; exact b1, by rw [zup_y, b2, nI_1], by rw [zup_o (by omega)]; exact b3, by rw [zup_o (by omega)]; exact b4, fun k hk => by rw [zup_o (by omega)]; exact b5 k hk, fun k hk => by rw [zup_o (by omega), zup_o (by omega)]; exact b6 k hk⟩, ⟨by rw [zup_o (by omega)]; exact d1, by rw [zup_y, d2, nI_1], by rw [zup_o (by omega)]; exact d3, by rw [zup_o (by omega)]; exact d4, by rw [zup_o (by omega)]; exact d5, by rw [zup_o (by omega)]; exact d6, fun k hk => by rw [zup_o (by omega)]; exact d7 k hk, fun k hk => by rw [zup_o (by omega)]; exact d8 k hk⟩⟩
theorem zfr_adv (V : zI) (x : Int32) : zfr V (zup V 180 3 x) := fun c j h1 h2 h3 => zup_o (by omega)
theorem mfr_adv (U : zI) (x : Int32) : mfr U (zup U 0 6 x) := fun c j h1 h2 => zup_o (by omega)
theorem zrev_getD {l : List (Nat × Nat)} {x : Nat × Nat} {k : Nat} (hk : k < l.length) : (x :: l).reverse.getD k (0, 0) = l.reverse.getD k (0, 0) := by
  rw [List.reverse_cons, List.getD_eq_getElem?_getD, List.getD_eq_getElem?_getD, List.getElem?_append_left (by rw [List.length_reverse]; exact hk)]
theorem zrev_last {l : List (Nat × Nat)} {x : Nat × Nat} : (x :: l).reverse.getD l.length (0, 0) = x := by
  rw [List.reverse_cons, List.getD_eq_getElem?_getD, List.getElem?_append_right (by rw [List.length_reverse]; exact Nat.le_refl _), List.length_reverse, Nat.sub_self]
  rfl
/-- a part is written on both sides -/
theorem zgd_write {u n o p : Nat} {b : Nat → Nat} {l : List (Nat × Nat)} {V U : zI} (h : zgd u n o b p l V U) (hl : l.length < p) (x : Nat × Nat) : ∃ V' U', fc_Reader_write V (nI x.1) (nI x.2) = some V' ∧ fm_codes U (nI (zop x)) = some U' ∧ zgd u n o b p (x :: l) V' U' ∧ zfr V V' ∧ mfr U U' := by
  obtain ⟨⟨a1, a2, a3, a4, a5, a6⟩, ⟨b1, b2, b3, b4, b5, b6⟩, ⟨d1, d2, d3, d4, d5, d6, d7, d8⟩⟩ := h
  refine ⟨zup (zup (zup V 181 l.length (nI x.1)) 182 l.length (nI x.2)) 180 2 (nI (l.length + 1)), zup (zup U 6 l.length (nI (zop x))) 0 11 (nI (l.length + 1)), ?_, ?_, ⟨⟨a1, a2, by rw [List.length_cons]; omega, a4, a5, a6⟩, ⟨by rw [zup_y, List.length_cons], by rw [zup_o (by omega), zup_o (by omega), zup_o (by omega)]; exact b2, by rw [zup_o (by omega), zup_o (by omega), zup_o (by omega)]; exact b3, by rw [zup_o (by omega), zup_o (by omega), zup_o (by omega)]; exact b4, fun k hk => by rw [zup_o (by omega), zup_o (by omega), zup_o (by omega)]; exact b5 k hk, fun k hk => ?_⟩, ⟨by rw [zup_y, List.length_cons], by rw [zup_o (by omega), zup_o (by omega)]; exact d2, by rw [zup_o (by omega), zup_o (by omega)]; exact d3, by rw [zup_o (by omega), zup_o (by omega)]; exact d4, by rw [zup_o (by omega), zup_o (by omega)]; exact d5, by rw [zup_o (by omega), zup_o (by omega)]; exact d6, fun k hk => by rw [zup_o (by omega), zup_o (by omega)]; exact d7 k hk, fun k hk => ?_⟩⟩, fun c j h1 h2 h3 => by rw [zup_o (by omega), zup_o (by omega), zup_o (by omega)], fun c j h1 h2 => by rw [zup_o (by omega), zup_o (by omega)]⟩
  · unfold fc_Reader_write
    rw [b1, if_pos (show nI l.length < (60 : Int32) from nI_lt (b := 60) (by omega) (by omega)), zl_b (by omega), show decide (l.length < 60) = true from decide_eq_true (by omega), zl_cl _ (by omega), nI_1]
    rfl
  · unfold fm_codes
    rw [d6, if_pos rfl, d1, zl_b (by omega), show decide (l.length < 60) = true from decide_eq_true (by omega), zl_cl _ (by omega), nI_1]
    rfl
  · rw [List.length_cons] at hk
    rw [zup_o (by omega), zup_o (by omega)]
    by_cases e : k = l.length
    · subst e
      rw [zup_y, zup_o (by omega), zup_y, zrev_last]
      exact ⟨rfl, rfl⟩
    · rw [zup_o (by omega), zup_o (by omega), zup_o (by omega), zrev_getD (by omega)]
      exact b6 k (by omega)
  · rw [List.length_cons] at hk
    rw [zup_o (by omega)]
    by_cases e : k = l.length
    · subst e
      rw [zup_y, zrev_last]
    · rw [zup_o (by omega), zrev_getD (by omega)]
      exact d8 k (by omega)
/-- both failed at the same place -/
def zbad (o : Nat) (V' U' : zI) : Prop := ∃ p', p' ≤ 60 ∧ V' 180 3 = nI p' ∧ U' 0 6 = nI p' ∧ U' 0 9 = 1 ∧ U' 0 7 = nI o
def zrs (u n o : Nat) (b : Nat → Nat) (p : Nat) (l : List (Nat × Nat)) (V U : zI) (cr : Option (Int32 × zI)) (mr : Option zI) : Prop := ∃ V' U', mr = some U' ∧ zfr V V' ∧ mfr U U' ∧ ((cr = some (1, V') ∧ ∃ p' q, p < p' ∧ q.length ≤ p' - p ∧ zgd u n o b p' (q ++ l) V' U' ∧ ∀ d, zdep (znn u) l = some d → zdep (znn u) (q ++ l) = some (d + 1)) ∨ (cr = some (0, V') ∧ zbad o V' U'))
def zrl (u n o : Nat) (b : Nat → Nat) (p : Nat) (l : List (Nat × Nat)) (V U : zI) (cr : Option (Int32 × zI)) (mr : Option zI) : Prop := ∃ V' U', mr = some U' ∧ zfr V V' ∧ mfr U U' ∧ ((cr = some (1, V') ∧ ∃ p' q, p ≤ p' ∧ q.length ≤ p' - p ∧ zgd u n o b p' (q ++ l) V' U' ∧ ∀ d, zdep (znn u) l = some (d + 1) → zdep (znn u) (q ++ l) = some (d + 1)) ∨ (cr = some (0, V') ∧ zbad o V' U'))
theorem zdep_bin {nn s d : Nat} {l : List (Nat × Nat)} (hs : s ∈ zops) (h : zdep nn l = some (d + 2)) : zdep nn ((s, 0) :: l) = some (d + 1) := by
  have h0 : ¬ s = 0 ∧ ¬ s = 1 ∧ ¬ s = 33 := by
    unfold zops at hs
    refine ⟨?_, ?_, ?_⟩ <;> intro e <;> subst e <;> revert hs <;> decide
  have hs2 : s ∈ [124, 38, 60, 61, 62, 43, 45, 42, 47, 37] := hs
  rw [zdep, h]
  simp only [h0.1, h0.2.1, h0.2.2, hs2, if_true, if_false, show 2 ≤ d + 2 by omega]
  rfl
/-- one more after a sign, or the end -/
theorem zloop {u n o : Nat} {b : Nat → Nat} {S : Nat → Bool} {CL : Nat → Int32 → zI → Option (Int32 × zI)} {ML : Nat → zI → Option zI} {sC : zI → Option (Int32 × zI)} {sM : zI → Option zI} (hS : ∀ s, S s = true → s ∈ zops) (hC1 : ∀ f i V s, i < 60 → fc_Reader_next V = some (nI s) → S s = true → CL (f + 1) (nI i) V = (sC (zup V 180 3 (V 180 3 + 1))).bind fun r => if r.1 = 0 then some (0, r.2) else (fc_Reader_write r.2 (nI s) 0).bind fun r2 => CL f (nI (i + 1)) r2) (hC0 : ∀ f i V x, i < 60 → fc_Reader_next V = some (zov x) → (∀ s, x = some s → s < 256 ∧ S s = false) → CL (f + 1) (nI i) V = some (1, V)) (hM1 : ∀ F U s, fm_here U = some (nI s) → S s = true → ML (F + 1) U = (sM (zup U 0 6 (U 0 6 + 1))).bind fun r => (fm_codes r (nI (zop (s, 0)))).bind fun r2 => ML F r2) (hM0 : ∀ F U x, fm_here U = some (zov x) → (∀ s, x = some s → s < 256 ∧ S s = false) → ML (F + 1) U = some U) (hsub : ∀ p l V U, zgd u n o b p l V U → zrs u n o b p l V U (sC V) (sM U)) : ∀ m p l V U i f F, zgd u n o b p l V U → n - p ≤ m → m < f → m < F → 2 * i ≤ p → zrl u n o b p l V U (CL f (nI i) V) (ML F U) := by
  intro m
  induction m with
  | zero =>
    intro p l V U i f F h hm hf hF hi
    obtain ⟨f, rfl⟩ : ∃ g, f = g + 1 := ⟨f - 1, by omega⟩
    obtain ⟨F, rfl⟩ : ∃ g, F = g + 1 := ⟨F - 1, by omega⟩
    have hn := h.1.1
    have hpn := h.1.2.1
    have hx : zpn b n p = none := by unfold zpn; exact if_neg (by omega)
    have h1 := c_next h
    have h2 := m_here h
    rw [hx] at h1 h2
    exact ⟨V, U, hM0 F U none h2 (fun s e => by cases e), fun _ _ _ _ _ => rfl, fun _ _ _ _ => rfl, Or.inl ⟨hC0 f i V none (by omega) h1 (fun s e => by cases e), p, [], Nat.le_refl _, Nat.zero_le _, h, fun d hd => hd⟩⟩
  | succ m ih =>
    intro p l V U i f F h hm hf hF hi
    obtain ⟨f, rfl⟩ : ∃ g, f = g + 1 := ⟨f - 1, by omega⟩
    obtain ⟨F, rfl⟩ : ∃ g, F = g + 1 := ⟨F - 1, by omega⟩
    have hn := h.1.1
    have hpn := h.1.2.1
    have hb := h.1.2.2.2.2.2
    have hlp := h.1.2.2.1
    have h1 := c_next h
    have h2 := m_here h
    have hstop : (∀ s, zpn b n p = some s → s < 256 ∧ S s = false) → zrl u n o b p l V U (CL (f + 1) (nI i) V) (ML (F + 1) U) := fun hx =>
      ⟨V, U, hM0 F U _ h2 hx, fun _ _ _ _ _ => rfl, fun _ _ _ _ => rfl, Or.inl ⟨hC0 f i V _ (by omega) h1 hx, p, [], Nat.le_refl _, Nat.zero_le _, h, fun d hd => hd⟩⟩
    cases e : zpn b n p with
    | none => exact hstop (fun s e2 => by rw [e] at e2; cases e2)
    | some s =>
      obtain ⟨hp, hbs⟩ := zpn_s e
      cases hSs : S s with
      | false => exact hstop (fun s2 e2 => by rw [e] at e2; cases e2; exact ⟨by have := hb p hp; omega, hSs⟩)
      | true =>
        rw [e] at h1 h2
        have hops := hS s hSs
        obtain ⟨V1, U1, q1, q2, q3, q4⟩ := hsub (p + 1) l _ _ (zgd_adv h hp)
        have f1 := zfr_t (zfr_adv V _) q2
        have f2 := mfr_t (mfr_adv U _) q3
        rw [hC1 f i V s (by omega) h1 hSs, hM1 F U s h2 hSs, q1, Option.bind_some]
        rcases q4 with ⟨k1, p', q, k2, k3, k4, k5⟩ | ⟨k1, k2⟩
        · have hp' := k4.1.2.1
          obtain ⟨V2, U2, w1, w2, w3, w4, w5⟩ := zgd_write k4 (by rw [List.length_append]; omega) (s, 0)
          have w1 : fc_Reader_write V1 (nI s) 0 = some V2 := w1
          rw [k1, Option.bind_some, if_neg z10]
          show zrl u n o b p l V U ((fc_Reader_write V1 (nI s) 0).bind fun r2 => CL f (nI (i + 1)) r2) _
          rw [w1, w2, Option.bind_some, Option.bind_some]
          obtain ⟨V3, U3, r1, r2, r3, r4⟩ := ih p' ((s, 0) :: (q ++ l)) V2 U2 (i + 1) f F w3 (by omega) (by omega) (by omega) (by omega)
          refine ⟨V3, U3, r1, zfr_t (zfr_t f1 w4) r2, mfr_t (mfr_t f2 w5) r3, ?_⟩
          rcases r4 with ⟨j1, p2, q2, j2, j3, j4, j5⟩ | r4
          · refine Or.inl ⟨j1, p2, q2 ++ (s, 0) :: q, by omega, by rw [List.length_append, List.length_cons]; omega, ?_, fun d hd => ?_⟩
            · rw [show q2 ++ (s, 0) :: q ++ l = q2 ++ (s, 0) :: (q ++ l) by simp]
              exact j4
            · rw [show q2 ++ (s, 0) :: q ++ l = q2 ++ (s, 0) :: (q ++ l) by simp]
              exact j5 d (zdep_bin hops (k5 (d + 1) hd))
          · exact Or.inr r4
        · obtain ⟨p', z1, z2, z3, z4, z5⟩ := k2
          rw [k1, Option.bind_some, if_pos rfl, m_codes_w z4, Option.bind_some]
          obtain ⟨F, rfl⟩ : ∃ g, F = g + 1 := ⟨F - 1, by omega⟩
          exact ⟨V1, U1, hM0 F U1 none (m_here_w z4) (fun s e => by cases e), f1, f2, Or.inr ⟨rfl, p', z1, z2, z3, z4, z5⟩⟩
/-- the first, and what follows -/
theorem zlevel {u n o : Nat} {b : Nat → Nat} {S : Nat → Bool} {CL : Nat → Int32 → zI → Option (Int32 × zI)} {ML : Nat → zI → Option zI} {sC : zI → Option (Int32 × zI)} {sM : zI → Option zI} (hS : ∀ s, S s = true → s ∈ zops) (hC1 : ∀ f i V s, i < 60 → fc_Reader_next V = some (nI s) → S s = true → CL (f + 1) (nI i) V = (sC (zup V 180 3 (V 180 3 + 1))).bind fun r => if r.1 = 0 then some (0, r.2) else (fc_Reader_write r.2 (nI s) 0).bind fun r2 => CL f (nI (i + 1)) r2) (hC0 : ∀ f i V x, i < 60 → fc_Reader_next V = some (zov x) → (∀ s, x = some s → s < 256 ∧ S s = false) → CL (f + 1) (nI i) V = some (1, V)) (hM1 : ∀ F U s, fm_here U = some (nI s) → S s = true → ML (F + 1) U = (sM (zup U 0 6 (U 0 6 + 1))).bind fun r => (fm_codes r (nI (zop (s, 0)))).bind fun r2 => ML F r2) (hM0 : ∀ F U x, fm_here U = some (zov x) → (∀ s, x = some s → s < 256 ∧ S s = false) → ML (F + 1) U = some U) (hsub : ∀ p l V U, zgd u n o b p l V U → zrs u n o b p l V U (sC V) (sM U)) {p : Nat} {l : List (Nat × Nat)} {V U : zI} (h : zgd u n o b p l V U) : zrs u n o b p l V U ((sC V).bind fun r => if r.1 = 0 then some (0, r.2) else CL 100 (nI 0) r.2) ((sM U).bind fun r => ML 100 r) := by
  obtain ⟨V1, U1, q1, q2, q3, q4⟩ := hsub p l V U h
  rw [q1, Option.bind_some]
  rcases q4 with ⟨k1, p', q, k2, k3, k4, k5⟩ | ⟨k1, k2⟩
  · have hn := k4.1.1
    obtain ⟨V3, U3, r1, r2, r3, r4⟩ := zloop hS hC1 hC0 hM1 hM0 hsub 60 p' (q ++ l) V1 U1 0 100 100 k4 (by omega) (by omega) (by omega) (by omega)
    rw [k1, Option.bind_some, if_neg z10]
    refine ⟨V3, U3, r1, zfr_t q2 r2, mfr_t q3 r3, ?_⟩
    rcases r4 with ⟨j1, p2, q2', j2, j3, j4, j5⟩ | r4
    · refine Or.inl ⟨j1, p2, q2' ++ q, by omega, by rw [List.length_append]; omega, by rw [List.append_assoc]; exact j4, fun d hd => by rw [List.append_assoc]; exact j5 d (k5 d hd)⟩
    · exact Or.inr r4
  · rw [k1, Option.bind_some, if_pos rfl]
    have z4 := k2
    obtain ⟨p', z1, z2, z3, z4, z5⟩ := z4
    exact ⟨V1, U1, hM0 99 U1 none (m_here_w z4) (fun s e => by cases e), q2, q3, Or.inr ⟨rfl, k2⟩⟩
