/-! the tape, numbers that wait, draws, counts -/
theorem rR_P {I J I' J' : zI} (h : rR I J) (hP : rP I' (J' 1)) (e : ∀ c k, (2 ≤ c ∧ c ≤ 28 ∨ c = 29 ∧ k < 2 ∨ c = 30 ∨ c = 31 ∨ 35 ≤ c ∧ c ≤ 37 ∨ 40 ≤ c ∧ c ≤ 42 ∨ zxrel c k) → I' c k = I c k) (e2 : ∀ k, (k ≤ 5 ∨ 9 ≤ k ∧ k < 240 ∨ 324 ≤ k ∧ k < 448) → J' 1 k = J 1 k) (e3 : ∀ c k, mxrel c k → J' c k = J c k) : rR I' J' :=
  ⟨⟨rL_cg h.1.1 (fun c k hc => e c k (by omega)) (fun k hk => e2 k (by omega)), rT_cg h.1.2.1 (fun c k hc => e c k (by omega)) (fun k h1 h2 => e2 k (by omega)), hP⟩, rX_cg h.2 (fun c k hc => e c k (Or.inr (Or.inr (Or.inr (Or.inr (Or.inr (Or.inr hc))))))) e3⟩
theorem sim_seed {I J : zI} (h : rR I J) (v : Int32) : zSim (fc_T_seed I v) (fm_seed J v) := by
  obtain ⟨⟨n, b, a1, a2, a3, a4⟩, ⟨m, b1, b2, b3, b4⟩, e8⟩ := h.1.2.2
  unfold fc_T_seed fm_seed
  rw [m_become (a := 8) (c := 8) rfl (by omega)]
  simp only [Option.bind_some, e8]
  exact zSim_i rfl rfl (rR_P h ⟨⟨n, b, a1, by (unfold zup; repeat (first | rw [if_neg (by omega)] | rw [if_pos (by omega)])); exact a2, by (unfold zup; repeat (first | rw [if_neg (by omega)] | rw [if_pos (by omega)])); exact a3, fun k hk => by (unfold zup; repeat (first | rw [if_neg (by omega)] | rw [if_pos (by omega)])); exact a4 k hk⟩, ⟨m, b1, by (unfold zup; repeat (first | rw [if_neg (by omega)] | rw [if_pos (by omega)])); exact b2, by (unfold zup; repeat (first | rw [if_neg (by omega)] | rw [if_pos (by omega)])); exact b3, fun k hk => by (unfold zup; repeat (first | rw [if_neg (by omega)] | rw [if_pos (by omega)])); exact b4 k hk⟩, by (unfold zup; repeat (first | rw [if_neg (by omega)] | rw [if_pos (by omega)]))⟩ (by intros c k hc; unfold zxrel at hc; unfold zup; repeat rw [if_neg (by omega)]) (by intros; unfold zup; repeat rw [if_neg (by omega)]) (by intros c k hc; unfold mxrel at hc; unfold zup; repeat rw [if_neg (by omega)]))
theorem sim_tell {I J : zI} (h : rR I J) (v : Int32) : zSim (fc_T_tell I v) (fm_tell J v) := by
  obtain ⟨⟨n, b, a1, a2, a3, a4⟩, ⟨m, b1, b2, b3, b4⟩, e8⟩ := h.1.2.2
  unfold fc_T_tell fm_tell
  by_cases h6 : m = 24
  · have e1 : ¬ nI m < 24 := by rw [h6]; decide
    have e2 : J 1 (7 : Int32).toNatClampNeg = 24 := by rw [show (7 : Int32).toNatClampNeg = 7 from by decide, b3, h6]; rfl
    simp only [b2, e1, e2, if_true, if_false]
    exact zSim_e (zsim_err h (k := 4) (by omega) (by omega) rfl (by decide))
  · simp (disch := omega) only [k_0, k_1, k_2, k_3, k_4, k_5, k_6, k_7, k_8, k_9, k_10, k_11, k_12, k_13, k_14, k_15, k_16, k_17, k_18, k_19, k_20, k_21, k_22, k_23, k_24, k_25, k_26, k_27, k_28, k_30, k_31, k_32, k_33, k_37, k_38, k_40, k_41, k_42, k_43, k_45, k_47, k_48, k_50, k_57, k_60, k_61, k_62, k_63, k_66, k_70, k_71, k_99, k_124, k_128, k_186, k_198, k_216, k_240, k_255, k_256, k_300, k_324, k_448, k_999, k_9999, k_10000, k_12345, k_20000, k_20001, k_20002, k_20003, k_20004, k_20005, k_20006, k_20007, k_20008, k_20009, k_20010, k_999999, k_100000000, k_m1, zl_add, zl_mul, zl_sub, zl_div, zl_mod, zl_lt, zl_le, zl_eq, zl_cl, zl_b, zm1_eq, zm1_eq2, zm1_lt, zm1_nlt, zm1_le, zm1_nle, z_guard, Option.bind_some, if_true, if_false, decide_true, b2, b3, show m < 24 by omega, h6, show 300 + m < 448 by omega]
    have e9 : zup J 1 (300 + m) v 1 7 = nI m := by (unfold zup; repeat (first | rw [if_neg (by omega)] | rw [if_pos (by omega)])); exact b3
    rw [e9, zl_add]
    refine zSim_i rfl rfl (rR_P h ⟨⟨n, b, a1, by (unfold zup; repeat (first | rw [if_neg (by omega)] | rw [if_pos (by omega)])); exact a2, by (unfold zup; repeat (first | rw [if_neg (by omega)] | rw [if_pos (by omega)])); exact a3, fun k hk => by (unfold zup; repeat (first | rw [if_neg (by omega)] | rw [if_pos (by omega)])); exact a4 k hk⟩, ⟨m + 1, by omega, by (unfold zup; repeat (first | rw [if_neg (by omega)] | rw [if_pos (by omega)])), by (unfold zup; repeat (first | rw [if_neg (by omega)] | rw [if_pos (by omega)])), fun k hk => ?_⟩, by (unfold zup; repeat (first | rw [if_neg (by omega)] | rw [if_pos (by omega)])); exact e8⟩ (by intros c k hc; unfold zxrel at hc; unfold zup; repeat rw [if_neg (by omega)]) (by intros; unfold zup; repeat rw [if_neg (by omega)]) (by intros c k hc; unfold mxrel at hc; unfold zup; repeat rw [if_neg (by omega)]))
    by_cases hk2 : k = m
    · subst hk2; (unfold zup; repeat (first | rw [if_neg (by omega)] | rw [if_pos (by omega)]))
    · (unfold zup; repeat (first | rw [if_neg (by omega)] | rw [if_pos (by omega)])); exact b4 k (by omega)
theorem sim_told {I J : zI} (h : rR I J) (k : Int32) : zSim (fc_T_told I k) (fm_told J k) := by
  unfold fc_T_told fm_told
  rw [cwi, mwi]
  simp only [Option.bind_some]
  by_cases hx : 1 ≤ k ∧ k ≤ 6
  · simp only [hx, and_self, if_true, z10, if_false]
    obtain ⟨j, h1, h2, rfl⟩ := zl_nat (a := 1) (b := 6) hx (by omega) (by omega)
    simp (disch := omega) only [k_0, k_1, k_2, k_3, k_4, k_5, k_6, k_7, k_8, k_9, k_10, k_11, k_12, k_13, k_14, k_15, k_16, k_17, k_18, k_19, k_20, k_21, k_22, k_23, k_24, k_25, k_26, k_27, k_28, k_30, k_31, k_32, k_33, k_37, k_38, k_40, k_41, k_42, k_43, k_45, k_47, k_48, k_50, k_57, k_60, k_61, k_62, k_63, k_66, k_70, k_71, k_99, k_124, k_128, k_186, k_198, k_216, k_240, k_255, k_256, k_300, k_324, k_448, k_999, k_9999, k_10000, k_12345, k_20000, k_20001, k_20002, k_20003, k_20004, k_20005, k_20006, k_20007, k_20008, k_20009, k_20010, k_999999, k_100000000, k_m1, zl_add, zl_mul, zl_sub, zl_div, zl_mod, zl_lt, zl_le, zl_eq, zl_cl, zl_b, zm1_eq, zm1_eq2, zm1_lt, zm1_nlt, zm1_le, zm1_nle, z_guard, Option.bind_some, if_true, if_false, decide_true, show j < 7 by omega]
    exact zSim_i rfl (by rw [h.2.2.1 j (by omega)]) h
  · simp only [hx, if_false, if_true]
    exact zSim_e (zsim_err h (k := 1) (by omega) (by omega) rfl (by decide))
theorem sim_count {I J : zI} (h : rR I J) (w : Int32) : zSim (fc_T_count I w) (fm_count J w) := by
  obtain ⟨⟨⟨ns, nj, cs, ea, eb, tt, nw, kd, bg, sp, mk, eg, np, pl, hr, nt, ly, wo, al, dm, nf, fw, fo, hG, hW, hF, hD⟩, hT, hP⟩, hX⟩ := id h
  obtain ⟨g1, g2, g3⟩ := id hG
  obtain ⟨c1, c2, c3, c4, c5⟩ := id g2
  obtain ⟨m1, m2, m3, m4⟩ := id g3
  have hns := g1.1
  have hnj := g1.2.1
  obtain ⟨f1, f2, f3⟩ := id hF
  obtain ⟨d1, d2, d3⟩ := id hD
  obtain ⟨w1, w2, w3⟩ := id hW
  obtain ⟨⟨n, b, a1, a2, a3, a4⟩, ⟨m, b1, b2, b3, b4⟩, e8⟩ := id hP
  obtain ⟨-, -, -, -, n5, x1, x2, x3, x4⟩ := id hX
  unfold fc_T_count fm_count
  rw [mwi]
  simp only [Option.bind_some]
  by_cases hx : 0 ≤ w ∧ w ≤ 10
  · simp only [hx, and_self, if_true, z10, if_false]
    obtain ⟨j, h1, h2, rfl⟩ := zl_nat (a := 0) (b := 10) hx (by omega) (by omega)
    have z0 : zSim (some (I 2 0, I)) (some (J 1 0, J)) := zSim_i rfl (by rw [c1, m1]) h
    have z1 : zSim (some (I 2 2, I)) (some (J 1 1, J)) := zSim_i rfl (by rw [c2, m2]) h
    have z2 : zSim (some (I 7 0, I)) (some (J 1 2, J)) := zSim_i rfl (by rw [w2.1, w3.1]) h
    have z3 : zSim (some (I 23 0, I)) (some (J 1 3, J)) := zSim_i rfl (by rw [f2.1, f3.1]) h
    have z4 : zSim (some (I 23 3, I)) (some (J 1 4, J)) := zSim_i rfl (by rw [f2.2.1, f3.2.1]) h
    have z5 : zSim (some (I 29 1, I)) (some (J 1 5, J)) := zSim_i rfl (by rw [d2.2.1, d3.2.1]) h
    have z6 : zSim (some (I 1 7, I)) (some (J 1 6, J)) := zSim_i rfl (by rw [a2, a3]) h
    have z7 : zSim (some (I 1 9, I)) (some (J 1 7, J)) := zSim_i rfl (by rw [b2, b3]) h
    have z8 : zSim (some (I 184 1, I)) (some (J 0 25, J)) := zSim_i rfl (by rw [x2, x3]) h
    have z9 : zSim (some (I 1 10, I)) (some (J 1 8, J)) := zSim_i rfl (by rw [e8]) h
    have za : zSim (some (I 29 0, I)) (some (J 1 9, J)) := zSim_i rfl (by rw [d2.1, d3.1]) h
    rcases (show j = 0 ∨ j = 1 ∨ j = 2 ∨ j = 3 ∨ j = 4 ∨ j = 5 ∨ j = 6 ∨ j = 7 ∨ j = 8 ∨ j = 9 ∨ j = 10 by omega) with rfl | rfl | rfl | rfl | rfl | rfl | rfl | rfl | rfl | rfl | rfl
    · exact z0
    · exact z1
    · exact z2
    · exact z3
    · exact z4
    · exact z5
    · exact z6
    · exact z7
    · exact z8
    · exact z9
    · exact za
  · simp only [hx, if_false, if_true]
    have hn : ∀ j : Nat, j ≤ 10 → ¬ w = nI j := fun j hj e => hx (by rw [e]; exact ⟨nI_pos' (by omega), nI_le (b := 10) hj (by omega)⟩)
    have q0 : ¬ w = (0 : Int32) := hn 0 (by omega)
    have q1 : ¬ w = (1 : Int32) := hn 1 (by omega)
    have q2 : ¬ w = (2 : Int32) := hn 2 (by omega)
    have q3 : ¬ w = (3 : Int32) := hn 3 (by omega)
    have q4 : ¬ w = (4 : Int32) := hn 4 (by omega)
    have q5 : ¬ w = (5 : Int32) := hn 5 (by omega)
    have q6 : ¬ w = (6 : Int32) := hn 6 (by omega)
    have q7 : ¬ w = (7 : Int32) := hn 7 (by omega)
    have q8 : ¬ w = (8 : Int32) := hn 8 (by omega)
    have q9 : ¬ w = (9 : Int32) := hn 9 (by omega)
    have q10 : ¬ w = (10 : Int32) := hn 10 (by omega)
    simp only [q0, q1, q2, q3, q4, q5, q6, q7, q8, q9, q10, if_false]
    exact zSim_e (zsim_err h (k := 1) (by omega) (by omega) rfl (by decide))
theorem sim_body {I J : zI} (h : rR I J) (i : Int32) : zSim (fc_T_body I i) (fm_body_2 J i) := by
  obtain ⟨-, -, -, -, n, h1, h2, h3, h4⟩ := h.2
  unfold fc_T_body fm_body_2
  rw [cwi, mwi, h2, h3]
  simp only [Option.bind_some, zl_cnt (show n < 2 ^ 31 by omega)]
  by_cases hx : ∃ k, k < n ∧ i = nI k
  · simp only [hx, if_true, z10, if_false]
    obtain ⟨k, hk, rfl⟩ := hx
    simp (disch := omega) only [k_0, k_1, k_2, k_3, k_4, k_5, k_6, k_7, k_8, k_9, k_10, k_11, k_12, k_13, k_14, k_15, k_16, k_17, k_18, k_19, k_20, k_21, k_22, k_23, k_24, k_25, k_26, k_27, k_28, k_30, k_31, k_32, k_33, k_37, k_38, k_40, k_41, k_42, k_43, k_45, k_47, k_48, k_50, k_57, k_60, k_61, k_62, k_63, k_66, k_70, k_71, k_99, k_124, k_128, k_186, k_198, k_216, k_240, k_255, k_256, k_300, k_324, k_448, k_999, k_9999, k_10000, k_12345, k_20000, k_20001, k_20002, k_20003, k_20004, k_20005, k_20006, k_20007, k_20008, k_20009, k_20010, k_999999, k_100000000, k_m1, zl_add, zl_mul, zl_sub, zl_div, zl_mod, zl_lt, zl_le, zl_eq, zl_cl, zl_b, zm1_eq, zm1_eq2, zm1_lt, zm1_nlt, zm1_le, zm1_nle, z_guard, Option.bind_some, if_true, if_false, decide_true, show k < 30 by omega]
    exact zSim_i rfl (by rw [h4 k hk]) h
  · simp only [hx, if_false, if_true]
    exact zSim_e (zsim_err h (k := 2) (by omega) (by omega) rfl (by decide))
