/-! set, walk -/
theorem sim_set {I J : zI} (h : rR I J) (a b c : Int32) : zSim (fc_T_set I a b c) (fm_set J a b c) := by
  obtain ⟨⟨⟨ns, nj, cs, ea, eb, tt, nw, kd, bg, sp, mk, eg, np, pl, hr, nt, ly, wo, al, dm, nf, fw, fo, hG, hW, hF, hD⟩, hT, hP⟩, hX⟩ := id h
  obtain ⟨g1, g2, g3⟩ := id hG
  obtain ⟨c1, c2, c3, c4, c5⟩ := id g2
  obtain ⟨m1, m2, m3, m4⟩ := id g3
  have hns := g1.1
  have hnj := g1.2.1
  obtain ⟨w1, w2, w3⟩ := id hW
  have hnw := w1.1
  unfold fc_T_set fm_set
  rw [c_hasWalk w2.1 hnw, m_is (a := 2) (c := 2) rfl (by omega) w3.1 (by omega)]
  simp only [Option.bind_some, cwi, mwi, fm_set_J23]
  by_cases ha : ∃ k, k < nw ∧ a = nI k
  · simp only [ha, if_true, z10, if_false]
    obtain ⟨w, hw, rfl⟩ := ha
    obtain ⟨a1, a2, a3, a4, a5⟩ := w1.2 w hw
    obtain ⟨b1, b2, b3, b4, b5⟩ := w2.2 w hw
    obtain ⟨d1, d2, d3, d4, d5⟩ := w3.2 w hw
    by_cases hb0 : b = 0
    · subst hb0
      have e03 : ¬ (0 : Int32) = 3 := by decide
      simp only [if_true, e03, if_false, Option.bind_some]
      by_cases hc : 0 ≤ c ∧ c ≤ 6
      · simp only [hc, and_self, if_true, z10, if_false]
        obtain ⟨y, -, hy2, rfl⟩ := zl_nat (a := 0) (b := 6) hc (by omega) (by omega)
        rw [m_become (c := 66 + 12 * w) (by simp only [k_0, k_1, k_2, k_3, k_4, k_5, k_6, k_7, k_8, k_9, k_10, k_11, k_12, k_13, k_14, k_15, k_16, k_17, k_18, k_19, k_20, k_21, k_22, k_23, k_24, k_25, k_26, k_27, k_28, k_30, k_31, k_32, k_33, k_37, k_38, k_40, k_41, k_42, k_43, k_45, k_47, k_48, k_50, k_57, k_60, k_61, k_62, k_63, k_66, k_70, k_71, k_99, k_124, k_128, k_186, k_198, k_216, k_240, k_255, k_256, k_300, k_324, k_448, k_999, k_9999, k_10000, k_12345, k_20000, k_20001, k_20002, k_20003, k_20004, k_20005, k_20006, k_20007, k_20008, k_20009, k_20010, k_999999, k_100000000, k_m1, zl_mul, zl_add, Nat.add_zero]) (by omega)]
        simp (disch := omega) only [z_guard, zl_b, show w < 10 by omega, decide_true, if_true, zl_cl, Option.bind_some]
        refine zSim_i rfl (by rw [b1, d1]) (rR_L hT hP hX ⟨ns, nj, cs, ea, eb, tt, nw, vup kd w y, bg, sp, mk, eg, np, pl, hr, nt, ly, wo, al, dm, nf, fw, fo, keepG hG (by intros; unfold zup; repeat rw [if_neg (by omega)]) (by intros; unfold zup; repeat rw [if_neg (by omega)]), ⟨⟨hnw, fun v hv => ?_⟩, ⟨by (unfold zup; repeat (first | rw [if_neg (by omega)] | rw [if_pos (by omega)])); exact w2.1, fun v hv => ?_⟩, ⟨by (unfold zup; repeat (first | rw [if_neg (by omega)] | rw [if_pos (by omega)])); exact w3.1, fun v hv => ?_⟩⟩, keepF hF (by omega) (by intros; unfold zup; repeat rw [if_neg (by omega)]) (by intros; unfold zup; repeat rw [if_neg (by omega)]), keepD hD (Nat.le_refl _) (Nat.le_refl _) (by intros; unfold zup; repeat rw [if_neg (by omega)]) (by intros; unfold zup; repeat rw [if_neg (by omega)])⟩ (by intros c k hc; unfold zxrel at hc; unfold zup; repeat rw [if_neg (by omega)]) (by intros; unfold zup; repeat rw [if_neg (by omega)]) (by intros c k hc; unfold mxrel at hc; unfold zup; repeat rw [if_neg (by omega)]))
        · obtain ⟨q1, q2, q3, q4, q5⟩ := w1.2 v hv
          refine ⟨?_, q2, q3, q4, q5⟩
          by_cases hv2 : v = w
          · subst hv2; rw [vup_s]; omega
          · rw [vup_n hv2]; exact q1
        · obtain ⟨q1, q2, q3, q4, q5⟩ := w2.2 v hv
          refine ⟨?_, by (unfold zup; repeat (first | rw [if_neg (by omega)] | rw [if_pos (by omega)])); exact q2, by (unfold zup; repeat (first | rw [if_neg (by omega)] | rw [if_pos (by omega)])); exact q3, by (unfold zup; repeat (first | rw [if_neg (by omega)] | rw [if_pos (by omega)])); exact q4, fun k hk => by (unfold zup; repeat (first | rw [if_neg (by omega)] | rw [if_pos (by omega)])); exact q5 k hk⟩
          by_cases hv2 : v = w
          · subst hv2; rw [vup_s, zup_y]
          · rw [vup_n hv2, zup_o (by omega)]; exact q1
        · obtain ⟨q1, q2, q3, q4, q5⟩ := w3.2 v hv
          have := (w1.2 v hv).2.2.1
          refine ⟨?_, by (unfold zup; repeat (first | rw [if_neg (by omega)] | rw [if_pos (by omega)])); exact q2, by (unfold zup; repeat (first | rw [if_neg (by omega)] | rw [if_pos (by omega)])); exact q3, by (unfold zup; repeat (first | rw [if_neg (by omega)] | rw [if_pos (by omega)])); exact q4, fun k hk => by (unfold zup; repeat (first | rw [if_neg (by omega)] | rw [if_pos (by omega)])); exact q5 k hk⟩
          by_cases hv2 : v = w
          · subst hv2; rw [vup_s, zup_y]
          · rw [vup_n hv2, zup_o (by omega)]; exact q1
      · simp only [hc, if_false, if_true]
        exact zSim_e (zsim_err h (k := 1) (by omega) (by omega) rfl (by decide))
    · simp only [hb0, if_false]
      by_cases hb3 : b = 3
      · subst hb3
        simp only [if_true, Option.bind_some]
        by_cases hc : -1 ≤ c ∧ c ≤ 9999
        · simp only [hc, and_self, if_true, z10, if_false]
          rw [m_become (c := 66 + 12 * w + 3) (by simp only [k_0, k_1, k_2, k_3, k_4, k_5, k_6, k_7, k_8, k_9, k_10, k_11, k_12, k_13, k_14, k_15, k_16, k_17, k_18, k_19, k_20, k_21, k_22, k_23, k_24, k_25, k_26, k_27, k_28, k_30, k_31, k_32, k_33, k_37, k_38, k_40, k_41, k_42, k_43, k_45, k_47, k_48, k_50, k_57, k_60, k_61, k_62, k_63, k_66, k_70, k_71, k_99, k_124, k_128, k_186, k_198, k_216, k_240, k_255, k_256, k_300, k_324, k_448, k_999, k_9999, k_10000, k_12345, k_20000, k_20001, k_20002, k_20003, k_20004, k_20005, k_20006, k_20007, k_20008, k_20009, k_20010, k_999999, k_100000000, k_m1, zl_mul, zl_add]) (by omega)]
          simp (disch := omega) only [z_guard, zl_b, show w < 10 by omega, decide_true, if_true, zl_cl, Option.bind_some]
          refine zSim_i rfl (by rw [b4, d4]) (rR_L hT hP hX ⟨ns, nj, cs, ea, eb, tt, nw, kd, bg, sp, vup mk w c, eg, np, pl, hr, nt, ly, wo, al, dm, nf, fw, fo, keepG hG (by intros; unfold zup; repeat rw [if_neg (by omega)]) (by intros; unfold zup; repeat rw [if_neg (by omega)]), ⟨⟨hnw, fun v hv => ?_⟩, ⟨by (unfold zup; repeat (first | rw [if_neg (by omega)] | rw [if_pos (by omega)])); exact w2.1, fun v hv => ?_⟩, ⟨by (unfold zup; repeat (first | rw [if_neg (by omega)] | rw [if_pos (by omega)])); exact w3.1, fun v hv => ?_⟩⟩, keepF hF (by omega) (by intros; unfold zup; repeat rw [if_neg (by omega)]) (by intros; unfold zup; repeat rw [if_neg (by omega)]), keepD hD (Nat.le_refl _) (Nat.le_refl _) (by intros; unfold zup; repeat rw [if_neg (by omega)]) (by intros; unfold zup; repeat rw [if_neg (by omega)])⟩ (by intros c k hc; unfold zxrel at hc; unfold zup; repeat rw [if_neg (by omega)]) (by intros; unfold zup; repeat rw [if_neg (by omega)]) (by intros c k hc; unfold mxrel at hc; unfold zup; repeat rw [if_neg (by omega)]))
          · obtain ⟨q1, q2, q3, q4, q5⟩ := w1.2 v hv
            refine ⟨q1, q2, q3, ?_, q5⟩
            by_cases hv2 : v = w
            · subst hv2; rw [vup_s]; exact hc
            · rw [vup_n hv2]; exact q4
          · obtain ⟨q1, q2, q3, q4, q5⟩ := w2.2 v hv
            refine ⟨by (unfold zup; repeat (first | rw [if_neg (by omega)] | rw [if_pos (by omega)])); exact q1, by (unfold zup; repeat (first | rw [if_neg (by omega)] | rw [if_pos (by omega)])); exact q2, by (unfold zup; repeat (first | rw [if_neg (by omega)] | rw [if_pos (by omega)])); exact q3, ?_, fun k hk => by (unfold zup; repeat (first | rw [if_neg (by omega)] | rw [if_pos (by omega)])); exact q5 k hk⟩
            by_cases hv2 : v = w
            · subst hv2; rw [vup_s, zup_y]
            · rw [vup_n hv2, zup_o (by omega)]; exact q4
          · obtain ⟨q1, q2, q3, q4, q5⟩ := w3.2 v hv
            have := (w1.2 v hv).2.2.1
            refine ⟨by (unfold zup; repeat (first | rw [if_neg (by omega)] | rw [if_pos (by omega)])); exact q1, by (unfold zup; repeat (first | rw [if_neg (by omega)] | rw [if_pos (by omega)])); exact q2, by (unfold zup; repeat (first | rw [if_neg (by omega)] | rw [if_pos (by omega)])); exact q3, ?_, fun k hk => by (unfold zup; repeat (first | rw [if_neg (by omega)] | rw [if_pos (by omega)])); exact q5 k hk⟩
            by_cases hv2 : v = w
            · subst hv2; rw [vup_s, zup_y]
            · rw [vup_n hv2, zup_o (by omega)]; exact q4
        · simp only [hc, if_false, if_true]
          exact zSim_e (zsim_err h (k := 1) (by omega) (by omega) rfl (by decide))
      · simp only [hb3, if_false, Option.bind_some]
        exact zSim_e (zsim_err h (k := 1) (by omega) (by omega) rfl (by decide))
  · simp only [ha, if_true, if_false]
    exact zSim_e (zsim_err h (k := 1) (by omega) (by omega) rfl (by decide))
/-! the digits of a walk's number -/
def zdn : Nat → Nat → Option Nat
  | 0, a => if a = 0 then some 0 else none
  | f + 1, a => if a = 0 then some 0 else if 1 ≤ a % 10 ∧ a % 10 ≤ 4 then (zdn f (a / 10)).map (· + 1) else none
/-- the number of digits, and whether all are 1 .. 4 -/
def zdm : Nat → Nat → Nat × Bool
  | 0, _ => (0, true)
  | f + 1, a => if a = 0 then (0, true) else ((zdm f (a / 10)).1 + 1, (zdm f (a / 10)).2 && decide (1 ≤ a % 10 ∧ a % 10 ≤ 4))
theorem zdm_le : ∀ f a, (zdm f a).1 ≤ f
  | 0, _ => Nat.le_refl _
  | f + 1, a => by
    rw [zdm]
    by_cases h : a = 0
    · rw [if_pos h]; exact Nat.zero_le _
    · rw [if_neg h]; exact Nat.succ_le_succ (zdm_le f (a / 10))
theorem zdn_zdm : ∀ F f a, a < 10 ^ F → zdn f a = if (zdm F a).2 = true ∧ (zdm F a).1 ≤ f then some (zdm F a).1 else none
  | 0, f, a, h => by
    have : a = 0 := by omega
    subst this
    cases f <;> simp [zdn, zdm]
  | F + 1, 0, a, h => by
    rw [zdn, zdm]
    by_cases ha : a = 0
    · simp [ha]
    · simp [ha]
  | F + 1, f + 1, a, h => by
    rw [zdn, zdm]
    by_cases ha : a = 0
    · simp [ha]
    · have ih := zdn_zdm F f (a / 10) (by rw [Nat.pow_succ] at h; omega)
      rw [if_neg ha, if_neg ha, ih]
      by_cases hd : 1 ≤ a % 10 ∧ a % 10 ≤ 4
      · rw [if_pos hd]
        simp only [decide_eq_true hd, Bool.and_true]
        by_cases hq : (zdm F (a / 10)).2 = true ∧ (zdm F (a / 10)).1 ≤ f
        · rw [if_pos hq, if_pos ⟨hq.1, by omega⟩]; rfl
        · rw [if_neg hq, if_neg (by rintro ⟨q1, q2⟩; exact hq ⟨q1, by omega⟩)]; rfl
      · rw [if_neg hd, if_neg]
        simp [hd]
theorem zdn_le : ∀ {f a n}, zdn f a = some n → n ≤ f
  | 0, a, n, h => by
    rw [zdn] at h
    by_cases ha : a = 0
    · rw [if_pos ha] at h; cases h; exact Nat.le_refl _
    · rw [if_neg ha] at h; cases h
  | f + 1, a, n, h => by
    rw [zdn] at h
    by_cases ha : a = 0
    · rw [if_pos ha] at h; cases h; omega
    · rw [if_neg ha] at h
      by_cases hd : 1 ≤ a % 10 ∧ a % 10 ≤ 4
      · rw [if_pos hd] at h
        cases hq : zdn f (a / 10) with
        | none => rw [hq] at h; cases h
        | some m => rw [hq] at h; cases h; exact Nat.succ_le_succ (zdn_le hq)
      · rw [if_neg hd] at h; cases h
theorem zdn_dig : ∀ {f a n}, zdn f a = some n → ∀ i, i < n → 1 ≤ a / 10 ^ i % 10 ∧ a / 10 ^ i % 10 ≤ 4
  | 0, a, n, h, i, hi => by
    have := zdn_le h
    omega
  | f + 1, a, n, h, i, hi => by
    rw [zdn] at h
    by_cases ha : a = 0
    · rw [if_pos ha] at h; cases h; omega
    · rw [if_neg ha] at h
      by_cases hd : 1 ≤ a % 10 ∧ a % 10 ≤ 4
      · rw [if_pos hd] at h
        cases hq : zdn f (a / 10) with
        | none => rw [hq] at h; cases h
        | some m =>
          rw [hq] at h
          cases h
          match i with
          | 0 => simpa using hd
          | i + 1 =>
            have ih := zdn_dig hq i (Nat.lt_of_succ_lt_succ hi)
            rw [show a / 10 ^ (i + 1) = a / 10 / 10 ^ i by rw [Nat.div_div_eq_div_mul, Nat.pow_succ, Nat.mul_comm]]
            exact ih
      · rw [if_neg hd] at h; cases h
def zdv (o : Option Nat) (k : Nat) : Int32 := match o with
  | none => -1
  | some n => nI (k + n)
theorem c_steps_L (I : zI) : ∀ (f fuel k a : Nat), k + f = 8 → f < fuel → a < 2 ^ 31 → fc_Walks_stepsOf_L6 I fuel (nI a) (nI k) (nI k) = some (zdv (zdn f a) k)
  | 0, fuel, k, a, hk, hf, ha => by
    obtain ⟨g, rfl⟩ : ∃ g, fuel = g + 1 := ⟨fuel - 1, by omega⟩
    rw [fc_Walks_stepsOf_L6, zdn]
    have : k = 8 := by omega
    subst this
    by_cases h0 : a = 0
    · subst h0; rfl
    · have e0 : ¬ nI a = 0 := fun e => h0 ((nI_eq (b := 0) ha (by omega)).mp e)
      simp only [e0, h0, if_false, zdv]
      rfl
  | f + 1, fuel, k, a, hk, hf, ha => by
    obtain ⟨g, rfl⟩ : ∃ g, fuel = g + 1 := ⟨fuel - 1, by omega⟩
    rw [fc_Walks_stepsOf_L6, zdn]
    have h8 : ¬ (8 : Int32) ≤ nI k := nI_ge (a := k) (b := 8) (by omega) (by omega)
    simp only [h8, if_false]
    by_cases h0 : a = 0
    · subst h0
      simp only [show nI 0 = (0 : Int32) from rfl, if_true, zdv, Nat.add_zero]
      rfl
    · have e0 : ¬ nI a ≤ 0 := nI_nle (by omega) ha
      simp only [e0, h0, if_false]
      rw [k_10, zl_mod _ _ ha (by omega) (by omega), zl_div _ _ ha (by omega) (by omega), cwi]
      have e2 : ((1 : Int32) ≤ nI (a % 10) ∧ nI (a % 10) ≤ 4) ↔ (1 ≤ a % 10 ∧ a % 10 ≤ 4) := and_congr (nI_leI (a := 1) (by omega) (by omega)) (nI_leI (b := 4) (by omega) (by omega))
      simp only [e2, Option.bind_some]
      by_cases hd : 1 ≤ a % 10 ∧ a % 10 ≤ 4
      · simp only [hd, and_self, if_true, z10, if_false]
        rw [nI_1, c_steps_L I f g (k + 1) (a / 10) (by omega) (by omega) (by omega)]
        cases zdn f (a / 10) with
        | none => rfl
        | some n => simp only [zdv, Option.map_some]; rw [show k + 1 + n = k + (n + 1) by omega]
      · simp only [hd, if_false, if_true, zdv]
theorem c_steps (I : zI) (a : Int32) : fc_Walks_stepsOf I a = some (zdv (if a < 0 then none else zdn 8 a.toNatClampNeg) 0) := by
  unfold fc_Walks_stepsOf
  by_cases h : a < 0
  · rw [if_pos h, fc_Walks_stepsOf_L6]
    have h1 : a ≤ 0 := by grind
    have h2 : ¬ a = 0 := by grind
    have h3 : ¬ (8 : Int32) ≤ 0 := by decide
    simp only [h1, h2, h3, if_true, if_false, zdv]
  · rw [if_neg h]
    obtain ⟨j, hj, rfl⟩ := nI_of h
    rw [nI_clamp hj]
    exact c_steps_L I 8 100 0 j (by omega) (by omega) hj
