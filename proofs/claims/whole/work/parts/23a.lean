/-! people, things, facts, numbers that wait -/
theorem c_hasPerson {V : zI} {n : Nat} (h : V 23 0 = nI n) (hn : n ≤ 6) (x : Int32) : fc_Folk_hasPerson V x = some (if (∃ k, k < n ∧ x = nI k) then 1 else 0) := by
  unfold fc_Folk_hasPerson
  rw [h, cwi]
  simp only [Option.bind_some, zbb_if, z_guard, if_true]
  simp only [zl_cnt (show n < 2 ^ 31 by omega)]
theorem c_hasThing {V : zI} {n : Nat} (h : V 23 3 = nI n) (hn : n ≤ 6) (x : Int32) : fc_Folk_hasThing V x = some (if (∃ k, k < n ∧ x = nI k) then 1 else 0) := by
  unfold fc_Folk_hasThing
  rw [h, cwi]
  simp only [Option.bind_some, zbb_if, z_guard, if_true]
  simp only [zl_cnt (show n < 2 ^ 31 by omega)]
theorem c_hasWalk {V : zI} {n : Nat} (h : V 7 0 = nI n) (hn : n ≤ 10) (x : Int32) : fc_Walks_has V x = some (if (∃ k, k < n ∧ x = nI k) then 1 else 0) := by
  unfold fc_Walks_has
  rw [h, cwi]
  simp only [Option.bind_some, zbb_if, z_guard, if_true]
  simp only [zl_cnt (show n < 2 ^ 31 by omega)]
theorem sim_person {I J : zI} (h : rR I J) (a : Int32) : zSim (fc_T_person I a) (fm_person J a) := by
  obtain ⟨⟨⟨ns, nj, cs, ea, eb, tt, nw, kd, bg, sp, mk, eg, np, pl, hr, nt, ly, wo, al, dm, nf, fw, fo, hG, hW, hF, hD⟩, hT, hP⟩, hX⟩ := id h
  obtain ⟨g1, g2, g3⟩ := id hG
  obtain ⟨c1, c2, c3, c4, c5⟩ := id g2
  obtain ⟨m1, m2, m3, m4⟩ := id g3
  have hns := g1.1
  have hnj := g1.2.1
  obtain ⟨f1, f2, f3⟩ := id hF
  obtain ⟨p1, p2, p3, p4⟩ := id f2
  obtain ⟨q1, q2, q3, q4⟩ := id f3
  have hnp := f1.1
  unfold fc_T_person fm_person
  rw [c_hasPlace c1 hns, m_isPlace m1 hns]
  simp only [Option.bind_some]
  by_cases ha : ∃ k, k < 2 * ns ∧ a = nI k
  · simp only [ha, if_true, z10, if_false]
    obtain ⟨x, hx, rfl⟩ := ha
    by_cases h6 : np = 6
    · have e1 : ¬ nI np < 6 := by rw [h6]; decide
      have e2 : J 1 (3 : Int32).toNatClampNeg = 6 := by rw [show (3 : Int32).toNatClampNeg = 3 from by decide, q1, h6]; rfl
      simp only [p1, e1, e2, if_true, if_false]
      exact zSim_e (zsim_err h (k := 4) (by omega) (by omega) rfl (by decide))
    · simp (disch := omega) only [k_0, k_1, k_2, k_3, k_4, k_5, k_6, k_7, k_8, k_9, k_10, k_11, k_12, k_13, k_14, k_15, k_16, k_17, k_18, k_19, k_20, k_21, k_22, k_23, k_24, k_25, k_26, k_27, k_28, k_30, k_31, k_32, k_33, k_37, k_38, k_40, k_41, k_42, k_43, k_45, k_47, k_48, k_50, k_57, k_60, k_61, k_62, k_63, k_66, k_70, k_71, k_99, k_124, k_128, k_186, k_198, k_216, k_240, k_255, k_256, k_300, k_324, k_448, k_999, k_9999, k_10000, k_12345, k_20000, k_20001, k_20002, k_20003, k_20004, k_20005, k_20006, k_20007, k_20008, k_20009, k_20010, k_999999, k_100000000, k_m1, zl_add, zl_mul, zl_sub, zl_div, zl_mod, zl_lt, zl_le, zl_eq, zl_cl, zl_b, zm1_eq, zm1_eq2, zm1_lt, zm1_nlt, zm1_le, zm1_nle, z_guard, Option.bind_some, if_true, if_false, decide_true, p1, q1, show np < 6 by omega, h6, show 186 + 2 * np < 448 by omega, show 186 + 2 * np + 1 < 448 by omega]
      have e9 : zup (zup J 1 (186 + 2 * np) (nI x)) 1 (186 + 2 * np + 1) (nI 0) 1 3 = nI np := by (unfold zup; repeat (first | rw [if_neg (by omega)] | rw [if_pos (by omega)])); exact q1
      rw [e9, zl_add]
      refine zSim_i rfl rfl (rR_L hT hP hX ⟨ns, nj, cs, ea, eb, tt, nw, kd, bg, sp, mk, eg, np + 1, vup pl np x, vup hr np 0, nt, ly, wo, al, dm, nf, fw, fo, keepG hG (by intros; unfold zup; repeat rw [if_neg (by omega)]) (by intros; unfold zup; repeat rw [if_neg (by omega)]), keepW hW (by omega) (by intros; unfold zup; repeat rw [if_neg (by omega)]) (by intros; unfold zup; repeat rw [if_neg (by omega)]), ⟨⟨by omega, fun p hp => ?_, f1.2.2⟩, ⟨by (unfold zup; repeat (first | rw [if_neg (by omega)] | rw [if_pos (by omega)])), by (unfold zup; repeat (first | rw [if_neg (by omega)] | rw [if_pos (by omega)])); exact p2, fun p hp => ?_, fun t ht => ?_⟩, ⟨by (unfold zup; repeat (first | rw [if_neg (by omega)] | rw [if_pos (by omega)])), by (unfold zup; repeat (first | rw [if_neg (by omega)] | rw [if_pos (by omega)])); exact q2, fun p hp => ?_, fun t ht => ?_⟩⟩, keepD hD (Nat.le_refl _) (Nat.le_refl _) (by intros; unfold zup; repeat rw [if_neg (by omega)]) (by intros; unfold zup; repeat rw [if_neg (by omega)])⟩ (by intros c k hc; unfold zxrel at hc; unfold zup; repeat rw [if_neg (by omega)]) (by intros; unfold zup; repeat rw [if_neg (by omega)]) (by intros c k hc; unfold mxrel at hc; unfold zup; repeat rw [if_neg (by omega)]))
      · by_cases hp2 : p = np
        · subst hp2; rw [vup_s, vup_s]; omega
        · rw [vup_n hp2, vup_n hp2]; exact f1.2.1 p (by omega)
      · by_cases hp2 : p = np
        · subst hp2; rw [vup_s, vup_s]; exact ⟨by (unfold zup; repeat (first | rw [if_neg (by omega)] | rw [if_pos (by omega)])), by (unfold zup; repeat (first | rw [if_neg (by omega)] | rw [if_pos (by omega)]))⟩
        · rw [vup_n hp2, vup_n hp2]; (unfold zup; repeat (first | rw [if_neg (by omega)] | rw [if_pos (by omega)])); exact p3 p (by omega)
      · (unfold zup; repeat (first | rw [if_neg (by omega)] | rw [if_pos (by omega)])); exact p4 t ht
      · by_cases hp2 : p = np
        · subst hp2; rw [vup_s, vup_s]; exact ⟨by (unfold zup; repeat (first | rw [if_neg (by omega)] | rw [if_pos (by omega)])), by (unfold zup; repeat (first | rw [if_neg (by omega)] | rw [if_pos (by omega)]))⟩
        · rw [vup_n hp2, vup_n hp2]; (unfold zup; repeat (first | rw [if_neg (by omega)] | rw [if_pos (by omega)])); exact q3 p (by omega)
      · (unfold zup; repeat (first | rw [if_neg (by omega)] | rw [if_pos (by omega)])); exact q4 t ht
  · simp only [ha, if_false, if_true]
    exact zSim_e (zsim_err h (k := 1) (by omega) (by omega) rfl (by decide))
theorem sim_personIs {I J : zI} (h : rR I J) (a w : Int32) : zSim (fc_T_personIs I a w) (fm_personIs J a w) := by
  obtain ⟨⟨⟨ns, nj, cs, ea, eb, tt, nw, kd, bg, sp, mk, eg, np, pl, hr, nt, ly, wo, al, dm, nf, fw, fo, hG, hW, hF, hD⟩, hT, hP⟩, hX⟩ := id h
  obtain ⟨g1, g2, g3⟩ := id hG
  obtain ⟨c1, c2, c3, c4, c5⟩ := id g2
  obtain ⟨m1, m2, m3, m4⟩ := id g3
  have hns := g1.1
  have hnj := g1.2.1
  obtain ⟨f1, f2, f3⟩ := id hF
  obtain ⟨p1, p2, p3, p4⟩ := id f2
  obtain ⟨q1, q2, q3, q4⟩ := id f3
  have hnp := f1.1
  unfold fc_T_personIs fm_personIs
  rw [c_hasPerson p1 hnp, m_is (a := 3) (c := 3) rfl (by omega) q1 (by omega), cwi, mwi]
  simp only [Option.bind_some]
  by_cases ha : ∃ k, k < np ∧ a = nI k
  · by_cases hx : 0 ≤ w ∧ w ≤ 1
    · simp only [ha, hx, and_self, if_true, z10, if_false]
      obtain ⟨k, hk, rfl⟩ := ha
      obtain ⟨f, hf1, hf2, rfl⟩ := zl_nat (a := 0) (b := 1) hx (by omega) (by omega)
      obtain ⟨a1, a2⟩ := p3 k hk
      obtain ⟨b1, b2⟩ := q3 k hk
      rcases (show f = 0 ∨ f = 1 by omega) with rfl | rfl
      · simp (disch := omega) only [k_0, k_1, k_2, k_3, k_4, k_5, k_6, k_7, k_8, k_9, k_10, k_11, k_12, k_13, k_14, k_15, k_16, k_17, k_18, k_19, k_20, k_21, k_22, k_23, k_24, k_25, k_26, k_27, k_28, k_30, k_31, k_32, k_33, k_37, k_38, k_40, k_41, k_42, k_43, k_45, k_47, k_48, k_50, k_57, k_60, k_61, k_62, k_63, k_66, k_70, k_71, k_99, k_124, k_128, k_186, k_198, k_216, k_240, k_255, k_256, k_300, k_324, k_448, k_999, k_9999, k_10000, k_12345, k_20000, k_20001, k_20002, k_20003, k_20004, k_20005, k_20006, k_20007, k_20008, k_20009, k_20010, k_999999, k_100000000, k_m1, zl_add, zl_mul, zl_sub, zl_div, zl_mod, zl_lt, zl_le, zl_eq, zl_cl, zl_b, zm1_eq, zm1_eq2, zm1_lt, zm1_nlt, zm1_le, zm1_nle, z_guard, Option.bind_some, if_true, if_false, decide_true, show k < 6 by omega, show 186 + 2 * k < 448 by omega, Nat.add_zero, a1, b1]
        exact zSim_i rfl rfl h
      · simp (disch := omega) only [k_0, k_1, k_2, k_3, k_4, k_5, k_6, k_7, k_8, k_9, k_10, k_11, k_12, k_13, k_14, k_15, k_16, k_17, k_18, k_19, k_20, k_21, k_22, k_23, k_24, k_25, k_26, k_27, k_28, k_30, k_31, k_32, k_33, k_37, k_38, k_40, k_41, k_42, k_43, k_45, k_47, k_48, k_50, k_57, k_60, k_61, k_62, k_63, k_66, k_70, k_71, k_99, k_124, k_128, k_186, k_198, k_216, k_240, k_255, k_256, k_300, k_324, k_448, k_999, k_9999, k_10000, k_12345, k_20000, k_20001, k_20002, k_20003, k_20004, k_20005, k_20006, k_20007, k_20008, k_20009, k_20010, k_999999, k_100000000, k_m1, zl_add, zl_mul, zl_sub, zl_div, zl_mod, zl_lt, zl_le, zl_eq, zl_cl, zl_b, zm1_eq, zm1_eq2, zm1_lt, zm1_nlt, zm1_le, zm1_nle, z_guard, Option.bind_some, if_true, if_false, decide_true, show k < 6 by omega, show ¬ (1 = 0) by omega, show 186 + 2 * k + 1 < 448 by omega, a2, b2]
        exact zSim_i rfl rfl h
    · simp only [ha, hx, if_false, if_true, z10]
      exact zSim_e (zsim_err h (k := 1) (by omega) (by omega) rfl (by decide))
  · simp only [ha, if_false, if_true]
    exact zSim_e (zsim_err h (k := 1) (by omega) (by omega) rfl (by decide))
theorem sim_thing {I J : zI} (h : rR I J) (a w t : Int32) : zSim (fc_T_thing I a w t) (fm_thing J a w t) := by
  obtain ⟨⟨⟨ns, nj, cs, ea, eb, tt, nw, kd, bg, sp, mk, eg, np, pl, hr, nt, ly, wo, al, dm, nf, fw, fo, hG, hW, hF, hD⟩, hT, hP⟩, hX⟩ := id h
  obtain ⟨g1, g2, g3⟩ := id hG
  obtain ⟨c1, c2, c3, c4, c5⟩ := id g2
  obtain ⟨m1, m2, m3, m4⟩ := id g3
  have hns := g1.1
  have hnj := g1.2.1
  obtain ⟨f1, f2, f3⟩ := id hF
  obtain ⟨p1, p2, p3, p4⟩ := id f2
  obtain ⟨q1, q2, q3, q4⟩ := id f3
  have hnt := f1.2.2.1
  unfold fc_T_thing fm_thing
  rw [c_hasPlace c1 hns, m_isPlace m1 hns, cwi, mwi, cwi, mwi]
  simp only [Option.bind_some]
  by_cases ha : ∃ k, k < 2 * ns ∧ a = nI k
  · by_cases hw : 0 ≤ w ∧ w ≤ 9999
    · by_cases ht : 0 ≤ t ∧ t ≤ 1
      · simp only [ha, hw, ht, and_self, if_true, z10, if_false]
        obtain ⟨x, hx, rfl⟩ := ha
        obtain ⟨y, hy1, hy2, rfl⟩ := zl_nat (a := 0) (b := 9999) hw (by omega) (by omega)
        obtain ⟨z, hz1, hz2, rfl⟩ := zl_nat (a := 0) (b := 1) ht (by omega) (by omega)
        by_cases h6 : nt = 6
        · have e1 : ¬ nI nt < 6 := by rw [h6]; decide
          have e2 : J 1 (4 : Int32).toNatClampNeg = 6 := by rw [show (4 : Int32).toNatClampNeg = 4 from by decide, q2, h6]; rfl
          simp only [p2, e1, e2, if_true, if_false]
          exact zSim_e (zsim_err h (k := 4) (by omega) (by omega) rfl (by decide))
        · unfold fc_Folk_addThing
          simp (disch := omega) only [k_0, k_1, k_2, k_3, k_4, k_5, k_6, k_7, k_8, k_9, k_10, k_11, k_12, k_13, k_14, k_15, k_16, k_17, k_18, k_19, k_20, k_21, k_22, k_23, k_24, k_25, k_26, k_27, k_28, k_30, k_31, k_32, k_33, k_37, k_38, k_40, k_41, k_42, k_43, k_45, k_47, k_48, k_50, k_57, k_60, k_61, k_62, k_63, k_66, k_70, k_71, k_99, k_124, k_128, k_186, k_198, k_216, k_240, k_255, k_256, k_300, k_324, k_448, k_999, k_9999, k_10000, k_12345, k_20000, k_20001, k_20002, k_20003, k_20004, k_20005, k_20006, k_20007, k_20008, k_20009, k_20010, k_999999, k_100000000, k_m1, zl_add, zl_mul, zl_sub, zl_div, zl_mod, zl_lt, zl_le, zl_eq, zl_cl, zl_b, zm1_eq, zm1_eq2, zm1_lt, zm1_nlt, zm1_le, zm1_nle, z_guard, Option.bind_some, if_true, if_false, decide_true, p2, q2, show nt < 6 by omega, h6, show 198 + 3 * nt < 448 by omega, show 198 + 3 * nt + 1 < 448 by omega, show 198 + 3 * nt + 2 < 448 by omega]
          have e9 : zup (zup (zup J 1 (198 + 3 * nt) (nI x)) 1 (198 + 3 * nt + 1) (nI y)) 1 (198 + 3 * nt + 2) (nI z) 1 4 = nI nt := by (unfold zup; repeat (first | rw [if_neg (by omega)] | rw [if_pos (by omega)])); exact q2
          rw [e9, zl_add]
          refine zSim_i rfl rfl (rR_L hT hP hX ⟨ns, nj, cs, ea, eb, tt, nw, kd, bg, sp, mk, eg, np, pl, hr, nt + 1, vup ly nt x, vup wo nt y, vup al nt z, dm, nf, fw, fo, keepG hG (by intros; unfold zup; repeat rw [if_neg (by omega)]) (by intros; unfold zup; repeat rw [if_neg (by omega)]), keepW hW (by omega) (by intros; unfold zup; repeat rw [if_neg (by omega)]) (by intros; unfold zup; repeat rw [if_neg (by omega)]), ⟨⟨f1.1, f1.2.1, by omega, fun t ht => ?_⟩, ⟨by (unfold zup; repeat (first | rw [if_neg (by omega)] | rw [if_pos (by omega)])); exact p1, by (unfold zup; repeat (first | rw [if_neg (by omega)] | rw [if_pos (by omega)])), fun p hp => ?_, fun t ht => ?_⟩, ⟨by (unfold zup; repeat (first | rw [if_neg (by omega)] | rw [if_pos (by omega)])); exact q1, by (unfold zup; repeat (first | rw [if_neg (by omega)] | rw [if_pos (by omega)])), fun p hp => ?_, fun t ht => ?_⟩⟩, keepD hD (Nat.le_refl _) (Nat.le_refl _) (by intros; unfold zup; repeat rw [if_neg (by omega)]) (by intros; unfold zup; repeat rw [if_neg (by omega)])⟩ (by intros c k hc; unfold zxrel at hc; unfold zup; repeat rw [if_neg (by omega)]) (by intros; unfold zup; repeat rw [if_neg (by omega)]) (by intros c k hc; unfold mxrel at hc; unfold zup; repeat rw [if_neg (by omega)]))
          · by_cases hp2 : t = nt
            · subst hp2; rw [vup_s, vup_s, vup_s]; omega
            · rw [vup_n hp2, vup_n hp2, vup_n hp2]; exact f1.2.2.2 t (by omega)
          · (unfold zup; repeat (first | rw [if_neg (by omega)] | rw [if_pos (by omega)])); exact p3 p hp
          · by_cases hp2 : t = nt
            · subst hp2; rw [vup_s, vup_s, vup_s]; exact ⟨by (unfold zup; repeat (first | rw [if_neg (by omega)] | rw [if_pos (by omega)])), by (unfold zup; repeat (first | rw [if_neg (by omega)] | rw [if_pos (by omega)])), by (unfold zup; repeat (first | rw [if_neg (by omega)] | rw [if_pos (by omega)]))⟩
            · rw [vup_n hp2, vup_n hp2, vup_n hp2]; (unfold zup; repeat (first | rw [if_neg (by omega)] | rw [if_pos (by omega)])); exact p4 t (by omega)
          · have := f1.1
            (unfold zup; repeat (first | rw [if_neg (by omega)] | rw [if_pos (by omega)])); exact q3 p hp
          · by_cases hp2 : t = nt
            · subst hp2; rw [vup_s, vup_s, vup_s]; exact ⟨by (unfold zup; repeat (first | rw [if_neg (by omega)] | rw [if_pos (by omega)])), by (unfold zup; repeat (first | rw [if_neg (by omega)] | rw [if_pos (by omega)])), by (unfold zup; repeat (first | rw [if_neg (by omega)] | rw [if_pos (by omega)]))⟩
            · rw [vup_n hp2, vup_n hp2, vup_n hp2]; (unfold zup; repeat (first | rw [if_neg (by omega)] | rw [if_pos (by omega)])); exact q4 t (by omega)
      · simp only [ha, hw, ht, and_self, if_false, if_true, z10]
        exact zSim_e (zsim_err h (k := 1) (by omega) (by omega) rfl (by decide))
    · simp only [ha, hw, if_false, if_true, z10]
      exact zSim_e (zsim_err h (k := 1) (by omega) (by omega) rfl (by decide))
  · simp only [ha, if_false, if_true]
    exact zSim_e (zsim_err h (k := 1) (by omega) (by omega) rfl (by decide))
theorem sim_fact {I J : zI} (h : rR I J) (a o : Int32) : zSim (fc_T_fact I a o) (fm_fact J a o) := by
  obtain ⟨⟨⟨ns, nj, cs, ea, eb, tt, nw, kd, bg, sp, mk, eg, np, pl, hr, nt, ly, wo, al, dm, nf, fw, fo, hG, hW, hF, hD⟩, hT, hP⟩, hX⟩ := id h
  obtain ⟨g1, g2, g3⟩ := id hG
  obtain ⟨c1, c2, c3, c4, c5⟩ := id g2
  obtain ⟨m1, m2, m3, m4⟩ := id g3
  have hns := g1.1
  have hnj := g1.2.1
  obtain ⟨d1, d2, d3⟩ := id hD
  obtain ⟨p1, p2, p3⟩ := id d2
  obtain ⟨q1, q2, q3⟩ := id d3
  obtain ⟨w1, w2, w3⟩ := id hW
  have hnf := d1.2.2.1
  unfold fc_T_fact fm_fact
  rw [c_hasWalk w2.1 w1.1, m_is (a := 2) (c := 2) rfl (by omega) w3.1 (by have := w1.1; omega), cwi, mwi]
  simp only [Option.bind_some]
  by_cases ha : ∃ k, k < nw ∧ a = nI k
  · by_cases ho : 0 ≤ o ∧ o ≤ 1
    · simp only [ha, ho, and_self, if_true, z10, if_false]
      obtain ⟨x, hx, rfl⟩ := ha
      obtain ⟨y, hy1, hy2, rfl⟩ := zl_nat (a := 0) (b := 1) ho (by omega) (by omega)
      by_cases h6 : nf = 12
      · have e1 : ¬ nI nf < 12 := by rw [h6]; decide
        have e2 : J 1 (5 : Int32).toNatClampNeg = 12 := by rw [show (5 : Int32).toNatClampNeg = 5 from by decide, q2, h6]; rfl
        simp only [p2, e1, e2, if_true, if_false]
        exact zSim_e (zsim_err h (k := 4) (by omega) (by omega) rfl (by decide))
      · simp (disch := omega) only [k_0, k_1, k_2, k_3, k_4, k_5, k_6, k_7, k_8, k_9, k_10, k_11, k_12, k_13, k_14, k_15, k_16, k_17, k_18, k_19, k_20, k_21, k_22, k_23, k_24, k_25, k_26, k_27, k_28, k_30, k_31, k_32, k_33, k_37, k_38, k_40, k_41, k_42, k_43, k_45, k_47, k_48, k_50, k_57, k_60, k_61, k_62, k_63, k_66, k_70, k_71, k_99, k_124, k_128, k_186, k_198, k_216, k_240, k_255, k_256, k_300, k_324, k_448, k_999, k_9999, k_10000, k_12345, k_20000, k_20001, k_20002, k_20003, k_20004, k_20005, k_20006, k_20007, k_20008, k_20009, k_20010, k_999999, k_100000000, k_m1, zl_add, zl_mul, zl_sub, zl_div, zl_mod, zl_lt, zl_le, zl_eq, zl_cl, zl_b, zm1_eq, zm1_eq2, zm1_lt, zm1_nlt, zm1_le, zm1_nle, z_guard, Option.bind_some, if_true, if_false, decide_true, p2, q2, show nf < 12 by omega, h6, show 216 + 2 * nf < 448 by omega, show 216 + 2 * nf + 1 < 448 by omega]
        have e9 : zup (zup J 1 (216 + 2 * nf) (nI x)) 1 (216 + 2 * nf + 1) (nI y) 1 5 = nI nf := by (unfold zup; repeat (first | rw [if_neg (by omega)] | rw [if_pos (by omega)])); exact q2
        rw [e9, zl_add]
        refine zSim_i rfl rfl (rR_L hT hP hX ⟨ns, nj, cs, ea, eb, tt, nw, kd, bg, sp, mk, eg, np, pl, hr, nt, ly, wo, al, dm, nf + 1, vup fw nf x, vup fo nf y, keepG hG (by intros; unfold zup; repeat rw [if_neg (by omega)]) (by intros; unfold zup; repeat rw [if_neg (by omega)]), keepW hW (by omega) (by intros; unfold zup; repeat rw [if_neg (by omega)]) (by intros; unfold zup; repeat rw [if_neg (by omega)]), keepF hF (by omega) (by intros; unfold zup; repeat rw [if_neg (by omega)]) (by intros; unfold zup; repeat rw [if_neg (by omega)]), ⟨⟨d1.1, d1.2.1, by omega, fun f hf => ?_⟩, ⟨by (unfold zup; repeat (first | rw [if_neg (by omega)] | rw [if_pos (by omega)])); exact p1, by (unfold zup; repeat (first | rw [if_neg (by omega)] | rw [if_pos (by omega)])), fun f hf => ?_⟩, ⟨by (unfold zup; repeat (first | rw [if_neg (by omega)] | rw [if_pos (by omega)])); exact q1, by (unfold zup; repeat (first | rw [if_neg (by omega)] | rw [if_pos (by omega)])), fun f hf => ?_⟩⟩⟩ (by intros c k hc; unfold zxrel at hc; unfold zup; repeat rw [if_neg (by omega)]) (by intros; unfold zup; repeat rw [if_neg (by omega)]) (by intros c k hc; unfold mxrel at hc; unfold zup; repeat rw [if_neg (by omega)]))
        · by_cases hp2 : f = nf
          · subst hp2; rw [vup_s, vup_s]; omega
          · rw [vup_n hp2, vup_n hp2]; exact d1.2.2.2 f (by omega)
        · by_cases hp2 : f = nf
          · subst hp2; rw [vup_s, vup_s]; exact ⟨by (unfold zup; repeat (first | rw [if_neg (by omega)] | rw [if_pos (by omega)])), by (unfold zup; repeat (first | rw [if_neg (by omega)] | rw [if_pos (by omega)]))⟩
          · rw [vup_n hp2, vup_n hp2]; (unfold zup; repeat (first | rw [if_neg (by omega)] | rw [if_pos (by omega)])); exact p3 f (by omega)
        · by_cases hp2 : f = nf
          · subst hp2; rw [vup_s, vup_s]; exact ⟨by (unfold zup; repeat (first | rw [if_neg (by omega)] | rw [if_pos (by omega)])), by (unfold zup; repeat (first | rw [if_neg (by omega)] | rw [if_pos (by omega)]))⟩
          · rw [vup_n hp2, vup_n hp2]; (unfold zup; repeat (first | rw [if_neg (by omega)] | rw [if_pos (by omega)])); exact q3 f (by omega)
    · simp only [ha, ho, if_false, if_true, z10]
      exact zSim_e (zsim_err h (k := 1) (by omega) (by omega) rfl (by decide))
  · simp only [ha, if_false, if_true]
    exact zSim_e (zsim_err h (k := 1) (by omega) (by omega) rfl (by decide))
theorem sim_forget {I J : zI} (h : rR I J) : zSim (fc_T_forget I) (fm_forget J) := by
  obtain ⟨⟨⟨ns, nj, cs, ea, eb, tt, nw, kd, bg, sp, mk, eg, np, pl, hr, nt, ly, wo, al, dm, nf, fw, fo, hG, hW, hF, hD⟩, hT, hP⟩, hX⟩ := id h
  obtain ⟨g1, g2, g3⟩ := id hG
  obtain ⟨c1, c2, c3, c4, c5⟩ := id g2
  obtain ⟨m1, m2, m3, m4⟩ := id g3
  have hns := g1.1
  have hnj := g1.2.1
  obtain ⟨d1, d2, d3⟩ := id hD
  obtain ⟨p1, p2, p3⟩ := id d2
  obtain ⟨q1, q2, q3⟩ := id d3
  unfold fc_T_forget fm_forget
  rw [m_become (a := 5) (c := 5) rfl (by omega)]
  simp only [Option.bind_some, p2, q2]
  exact zSim_i rfl rfl (rR_L hT hP hX ⟨ns, nj, cs, ea, eb, tt, nw, kd, bg, sp, mk, eg, np, pl, hr, nt, ly, wo, al, dm, 0, fw, fo, keepG hG (by intros; unfold zup; repeat rw [if_neg (by omega)]) (by intros; unfold zup; repeat rw [if_neg (by omega)]), keepW hW (by omega) (by intros; unfold zup; repeat rw [if_neg (by omega)]) (by intros; unfold zup; repeat rw [if_neg (by omega)]), keepF hF (by omega) (by intros; unfold zup; repeat rw [if_neg (by omega)]) (by intros; unfold zup; repeat rw [if_neg (by omega)]), ⟨⟨d1.1, d1.2.1, by omega, fun f hf => by omega⟩, ⟨by (unfold zup; repeat (first | rw [if_neg (by omega)] | rw [if_pos (by omega)])); exact p1, by (unfold zup; repeat (first | rw [if_neg (by omega)] | rw [if_pos (by omega)])); rfl, fun f hf => by omega⟩, ⟨by (unfold zup; repeat (first | rw [if_neg (by omega)] | rw [if_pos (by omega)])); exact q1, by (unfold zup; repeat (first | rw [if_neg (by omega)] | rw [if_pos (by omega)])); rfl, fun f hf => by omega⟩⟩⟩ (by intros c k hc; unfold zxrel at hc; unfold zup; repeat rw [if_neg (by omega)]) (by intros; unfold zup; repeat rw [if_neg (by omega)]) (by intros c k hc; unfold mxrel at hc; unfold zup; repeat rw [if_neg (by omega)]))
