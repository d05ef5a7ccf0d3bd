theorem zSim_if {I J : zI} {A B : Prop} [Decidable A] [Decidable B] (hab : A ↔ B) (h : rR I J) : zSim (if A then some (1, I) else some (0, I)) (if B then some (1, J) else some (0, J)) := by
  by_cases ha : A
  · rw [if_pos ha, if_pos (hab.mp ha)]; exact zSim_i rfl rfl h
  · rw [if_neg ha, if_neg (fun hb => ha (hab.mpr hb))]; exact zSim_i rfl rfl h
theorem sim_isSo {I J : zI} (h : rR I J) {w nw' : Nat} (hw : w < nw') (hn' : nw' ≤ 10) (h7 : I 7 0 = nI nw') : zSim (fc_Walker_isSo I (nI w)) (fm_isSo J (nI w)) := by
  obtain ⟨⟨⟨ns, nj, cs, ea, eb, tt, nw, kd, bg, sp, mk, eg, np, pl, hr, nt, ly, wo, al, dm, nf, fw, fo, hG, hW, hF, hD⟩, hT, hP⟩, hX⟩ := id h
  obtain ⟨g1, g2, g3⟩ := id hG
  obtain ⟨c1, c2, c3, c4, c5⟩ := id g2
  obtain ⟨m1, m2, m3, m4⟩ := id g3
  have hns := g1.1
  have hnj := g1.2.1
  obtain ⟨t, t1, t2, t3⟩ := id hT.1
  have hWT := mk_wT g1 t
  have hC := mk_cT g1 g2 t1 t2
  have hM := mk_mT g1 g3 t1 t3
  generalize zcr nj cs ea eb tt t = T at hWT hC hM
  obtain ⟨w1, w2, w3⟩ := id hW
  have hnw := w1.1
  have e7 := (nI_eq (by omega) (by omega)).mp (h7.symm.trans w2.1)
  subst e7
  obtain ⟨a1, a2, a3, a4, a5⟩ := w1.2 w hw
  obtain ⟨b1, b2, b3, b4, b5⟩ := w2.2 w hw
  obtain ⟨d1, d2, d3, d4, d5⟩ := w3.2 w hw
  obtain ⟨I1, i1, i2, i3, i4⟩ := c_goes hWT hC w1 w2 hw (show 0 < 2 by omega)
  obtain ⟨J1, j1, j2, j3, j4, j5, j6, j7⟩ := m_goes hWT hM w1 w3 hw (show 0 < 2 by omega)
  have hp : 2 * bg w + 0 < 2 * ns := by omega
  have hR : rR I1 J1 := rR_cg h (fun c k hc => i4 c k (by unfold zwrel zxrel at hc; omega) (by unfold zwrel zxrel at hc; omega)) (fun k hk => j7 1 k (by omega) (by omega) (by omega)) (fun c k hc => by unfold mxrel at hc; exact j7 c k (by omega) (by omega) (by omega))
  have h := hR
  have hg := zgk_le (T := T) (eg := eg w) (p := 2 * bg w + 0) (sp w)
  unfold fc_Walker_isSo fm_isSo
  rw [show fc_Walker_goes I (nI w) 0 = _ from i1, show fm_goes J (nI w) 0 = _ from j1]
  simp only [Option.bind_some]
  by_cases hz : zpl T (eg w) (2 * bg w + 0) (sp w) = none
  · simp only [hz, if_true]
    exact zSim_i rfl rfl h
  · have hK := zgk_full.mpr hz
    rw [hK] at i2 i3 j2 j3 j4 j5 j6
    have hlt : ∀ i, i ≤ sp w → zpv T (eg w) (2 * bg w + 0) i < 2 * ns := fun i hi => zpv_lt hWT a5 hp hi
    have l1 := hlt (sp w) (Nat.le_refl _)
    have x0 : I1 179 0 = nI (2 * bg w + 0) := by rw [i3 0 (by omega)]; rfl
    have x8 : I1 8 w = nI (kd w) := by rw [i4 8 w (by omega) (by omega)]; exact b1
    have x11 : I1 11 w = mk w := by rw [i4 11 w (by omega) (by omega)]; exact b4
    have x2 : I1 2 0 = nI ns := by rw [i4 2 0 (by omega) (by omega)]; exact c1
    have x7 : I1 7 0 = nI nw' := by rw [i4 7 0 (by omega) (by omega)]; exact h7
    have y0 : J1 1 (66 + 12 * w) = nI (kd w) := by rw [j7 1 _ (by omega) (by omega) (by omega)]; exact d1
    have y1 : J1 1 (66 + 12 * w + 1) = nI (bg w) := by rw [j7 1 _ (by omega) (by omega) (by omega)]; exact d2
    have y3 : J1 1 (66 + 12 * w + 3) = mk w := by rw [j7 1 _ (by omega) (by omega) (by omega)]; exact d4
    have yn : J1 1 0 = nI ns := by rw [j7 1 _ (by omega) (by omega) (by omega)]; exact m1
    have y2 : J1 1 2 = nI nw' := by rw [j7 1 _ (by omega) (by omega) (by omega)]; exact w3.1
    rw [c_end i2 a3 (i3 (sp w) (Nat.le_refl _))]
    have wo0 : fm_walkOf J1 (nI w) 0 = some (nI (kd w)) := by rw [k_0, m_walkOf (by omega) (by omega), Nat.add_zero, y0]
    have wo1 : fm_walkOf J1 (nI w) 1 = some (nI (bg w)) := by rw [k_1, m_walkOf (by omega) (by omega), y1]
    have wo3 : fm_walkOf J1 (nI w) 3 = some (mk w) := by rw [k_3, m_walkOf (by omega) (by omega), y3]
    have zbw : zb (nI w) 10 = true := by rw [zl_b (by omega)]; exact decide_eq_true (by omega)
    have clw : (nI w).toNatClampNeg = w := zl_cl w (by omega)
    have tb : (2 : Int32) * nI (bg w) = nI (2 * bg w + 0) := by rw [k_2, zl_mul]; rfl
    simp only [hz, if_false, z10, Option.bind_some, wo0, wo1, wo3, zbw, z_guard, if_true, clw, x8, j2, zcl0, x0, x11, yn, x2, tb]
    have f01 : (nI 0 = (1 : Int32)) = False := by decide
    have f02 : (nI 0 = (2 : Int32)) = False := by decide
    have f03 : (nI 0 = (3 : Int32)) = False := by decide
    have f04 : (nI 0 = (4 : Int32)) = False := by decide
    have f05 : (nI 0 = (5 : Int32)) = False := by decide
    have f06 : (nI 0 = (6 : Int32)) = False := by decide
    have f11 : (nI 1 = (1 : Int32)) = True := by decide
    have f21 : (nI 2 = (1 : Int32)) = False := by decide
    have f22 : (nI 2 = (2 : Int32)) = True := by decide
    have f31 : (nI 3 = (1 : Int32)) = False := by decide
    have f32 : (nI 3 = (2 : Int32)) = False := by decide
    have f33 : (nI 3 = (3 : Int32)) = True := by decide
    have f41 : (nI 4 = (1 : Int32)) = False := by decide
    have f42 : (nI 4 = (2 : Int32)) = False := by decide
    have f43 : (nI 4 = (3 : Int32)) = False := by decide
    have f44 : (nI 4 = (4 : Int32)) = True := by decide
    have f51 : (nI 5 = (1 : Int32)) = False := by decide
    have f52 : (nI 5 = (2 : Int32)) = False := by decide
    have f53 : (nI 5 = (3 : Int32)) = False := by decide
    have f54 : (nI 5 = (4 : Int32)) = False := by decide
    have f55 : (nI 5 = (5 : Int32)) = True := by decide
    have f61 : (nI 6 = (1 : Int32)) = False := by decide
    have f62 : (nI 6 = (2 : Int32)) = False := by decide
    have f63 : (nI 6 = (3 : Int32)) = False := by decide
    have f64 : (nI 6 = (4 : Int32)) = False := by decide
    have f65 : (nI 6 = (5 : Int32)) = False := by decide
    have f66 : (nI 6 = (6 : Int32)) = True := by decide
    rcases (show kd w = 0 ∨ kd w = 1 ∨ kd w = 2 ∨ kd w = 3 ∨ kd w = 4 ∨ kd w = 5 ∨ kd w = 6 by omega) with e | e | e | e | e | e | e
    · simp only [e, f01, f02, f03, f04, f05, f06, if_false]
      exact zSim_i rfl rfl h
    · simp only [e, f11, if_true]
      exact zSim_if Iff.rfl h
    · simp only [e, f21, f22, if_true, if_false]
      exact zSim_if Iff.rfl h
    · simp only [e, f31, f32, f33, if_true, if_false]
      exact zSim_if Iff.rfl h
    · simp only [e, f41, f42, f43, f44, if_true, if_false, nI_1]
      rw [m_is (J := J1) (a := 2) (c := 2) rfl (by omega) y2 (by omega)]
      simp only [Option.bind_some]
      by_cases hw1 : w + 1 < nw'
      · have hk : ∃ k, k < nw' ∧ nI (w + 1) = nI k := ⟨w + 1, hw1, rfl⟩
        simp only [hk, if_true, z10, if_false]
        obtain ⟨I2, p1, p2, p3, p4⟩ := c_goes (I := I1) hWT (cT_cg hC (fun c k hc => i4 c k (by omega) (by omega))) w1 (wC_cg hnw w2 (fun c k _ _ => i4 c k (by omega) (by omega))) hw1 (show 0 < 2 by omega)
        obtain ⟨J2, q1, q2, q3, q4, q5, q6, q7⟩ := m_goes (J := J1) hWT (mT_cg hM (fun k hk => j7 1 k (by omega) (by omega) (by omega))) w1 (wM_cg hnw (fun w hw => (w1.2 w hw).2.2.1) w3 (fun k hk => j7 1 k (by omega) (by omega) (by omega))) hw1 (show 0 < 2 by omega)
        obtain ⟨a1', a2', a3', a4', a5'⟩ := w1.2 (w + 1) hw1
        have hR2 : rR I2 J2 := rR_cg h (fun c k hc => p4 c k (by unfold zwrel zxrel at hc; omega) (by unfold zwrel zxrel at hc; omega)) (fun k hk => q7 1 k (by omega) (by omega) (by omega)) (fun c k hc => by unfold mxrel at hc; exact q7 c k (by omega) (by omega) (by omega))
        rw [show fc_Walker_goes I1 (nI (w + 1)) 0 = _ from p1, show fm_goes J1 (nI (w + 1)) 0 = _ from q1]
        simp only [Option.bind_some]
        by_cases hz2 : zpl T (eg (w + 1)) (2 * bg (w + 1) + 0) (sp (w + 1)) = none
        · simp only [hz2, if_true]
          exact zSim_i rfl rfl hR2
        · have hK2 := zgk_full.mpr hz2
          have l2 := zpv_lt hWT a5' (p := 2 * bg (w + 1) + 0) (by omega) (Nat.le_refl (sp (w + 1)))
          rw [hK2] at p2 p3 q2
          rw [c_end p2 a3' (p3 _ (Nat.le_refl _))]
          simp only [hz2, if_false, z10, Option.bind_some, q2]
          exact zSim_if Iff.rfl hR2
      · have hk : ¬ ∃ k, k < nw' ∧ nI (w + 1) = nI k := by
          rintro ⟨k, k1, k2⟩
          have := (nI_eq (by omega) (by omega)).mp k2
          omega
        simp only [hk, if_false, if_true]
        have r1 : fc_Walker_goes I1 (nI (w + 1)) 0 = some (0, zup I1 178 1 0) := by
          unfold fc_Walker_goes
          rw [c_hasWalk (n := nw') (by (unfold zup; repeat (first | rw [if_neg (by omega)] | rw [if_pos (by omega)])); exact x7) hnw]
          simp only [hk, if_false, Option.bind_some, if_true]
        rw [r1]
        simp only [Option.bind_some, if_true]
        exact zSim_i rfl rfl (rR_cg h (fun c k hc => zup_o (by unfold zwrel zxrel at hc; omega)) (fun _ _ => rfl) (fun _ _ _ => rfl))
    · simp only [e, f51, f52, f53, f54, f55, if_true, if_false]
      by_cases hm : mk w = -1
      · have hm2 : mk w < 0 := by rw [hm]; decide
        rw [if_pos hm2, if_pos hm]
        exact zSim_i rfl rfl h
      · have hm2 : ¬ mk w < 0 := by
          have a6 := a4.1
          intro hlt
          apply hm
          have h1 : (mk w).toInt < 0 := by
            have := Int32.lt_iff_toInt_lt.mp hlt
            simpa using this
          have h2 : (-1 : Int32).toInt ≤ (mk w).toInt := Int32.le_iff_toInt_le.mp a6
          have h3 : (-1 : Int32).toInt = -1 := by decide
          apply Int32.toInt_inj.mp
          omega
        rw [if_neg hm2, if_neg hm]
        obtain ⟨I2, u1, u2⟩ := c_whours hWT hC w1 w2 hw hp (Nat.le_refl (sp w)) (by rw [hK] at hg; exact hg.2) (sp w) 0 100 I1 (by omega) (by omega) i2 i3 (fun c j h1 h2 _ _ => i4 c j h1 h2)
        have u3 : fc_Walker_hours I1 (nI w) = some (nI (zhs T (eg w) (2 * bg w + 0) (sp w)), I2) := u1
        simp only [u3, Option.bind_some, j3]
        have hR2 : rR I2 J1 := rR_cg h (fun c k hc => u2 c k (by unfold zwrel zxrel at hc; omega) (by unfold zwrel zxrel at hc; omega)) (fun _ _ => rfl) (fun _ _ _ => rfl)
        exact zSim_if Iff.rfl hR2
    · simp only [e, f61, f62, f63, f64, f65, f66, if_true, if_false]
      by_cases hb : nI (zpv T (eg w) (2 * bg w + 0) (sp w)) = nI (2 * bg w + 0)
      · simp only [hb, if_true]
        have u4 : fc_Walker_seen I1 = some (zsn T (eg w) (2 * bg w + 0) (sp w)) := by
          unfold fc_Walker_seen
          rw [fc_Walker_seen_L4, i2, if_neg (show ¬ nI (sp w) < 0 from nI_nlt (b := 0) (a := sp w) (by omega) (by omega)), show zb 0 9 = true from by decide, z_guard, if_pos rfl]
          have := c_seen (V := I1) hns hlt a3 i2 i3 (sp w) 0 99 (by omega) (by omega)
          rw [zcl0, x0, k_2, zl_div _ _ (by omega) (by omega) (by omega), show (0 : Int32) ||| (1 : Int32) <<< (nI ((2 * bg w + 0) / 2) &&& 31) = zsn T (eg w) (2 * bg w + 0) 0 from Int32.zero_or]
          exact this
        simp only [u4, Option.bind_some, j5]
        exact zSim_if Iff.rfl h
      · simp only [hb, if_false]
        exact zSim_i rfl rfl h
theorem sim_walkIs {I J : zI} (h : rR I J) (a b : Int32) : zSim (fc_T_walkIs I a b) (fm_walkIs J a b) := by
  obtain ⟨⟨⟨ns, nj, cs, ea, eb, tt, nw, kd, bg, sp, mk, eg, np, pl, hr, nt, ly, wo, al, dm, nf, fw, fo, hG, hW, hF, hD⟩, hT, hP⟩, hX⟩ := id h
  obtain ⟨g1, g2, g3⟩ := id hG
  obtain ⟨c1, c2, c3, c4, c5⟩ := id g2
  obtain ⟨m1, m2, m3, m4⟩ := id g3
  have hns := g1.1
  have hnj := g1.2.1
  obtain ⟨w1, w2, w3⟩ := id hW
  have hnw := w1.1
  unfold fc_T_walkIs fm_walkIs
  rw [c_hasWalk w2.1 hnw, m_is (a := 2) (c := 2) rfl (by omega) w3.1 (by omega), mwi]
  simp only [Option.bind_some]
  by_cases ha : ∃ k, k < nw ∧ a = nI k
  · simp only [ha, if_true, z10, if_false]
    obtain ⟨w, hw, rfl⟩ := ha
    obtain ⟨b1, b2, b3, b4, b5⟩ := w2.2 w hw
    obtain ⟨d1, d2, d3, d4, d5⟩ := w3.2 w hw
    by_cases hb : 0 ≤ b ∧ b ≤ 4
    · simp only [hb, and_self, if_true, z10, if_false]
      obtain ⟨y, -, hy2, rfl⟩ := zl_nat (a := 0) (b := 4) hb (by omega) (by omega)
      rcases (show y = 0 ∨ y = 1 ∨ y = 2 ∨ y = 3 ∨ y = 4 by omega) with rfl | rfl | rfl | rfl | rfl
      · simp (disch := omega) only [k_0, k_1, k_2, k_3, k_4, k_5, k_6, k_7, k_8, k_9, k_10, k_11, k_12, k_13, k_14, k_15, k_16, k_17, k_18, k_19, k_20, k_21, k_22, k_23, k_24, k_25, k_26, k_27, k_28, k_30, k_31, k_32, k_33, k_37, k_38, k_40, k_41, k_42, k_43, k_45, k_47, k_48, k_50, k_57, k_60, k_61, k_62, k_63, k_66, k_70, k_71, k_99, k_124, k_128, k_186, k_198, k_216, k_240, k_255, k_256, k_300, k_324, k_448, k_999, k_9999, k_10000, k_12345, k_20000, k_20001, k_20002, k_20003, k_20004, k_20005, k_20006, k_20007, k_20008, k_20009, k_20010, k_999999, k_100000000, k_m1, zl_add, zl_mul, zl_sub, zl_div, zl_mod, zl_lt, zl_le, zl_eq, zl_cl, zl_b, zm1_eq, zm1_eq2, zm1_lt, zm1_nlt, zm1_le, zm1_nle, z_guard, Option.bind_some, if_true, if_false, decide_true, m_walkOf, show ¬ 4 ≤ 0 by omega, Nat.add_zero, d1, show w < 10 by omega, b1]
        exact zSim_i rfl rfl h
      · simp (disch := omega) only [k_0, k_1, k_2, k_3, k_4, k_5, k_6, k_7, k_8, k_9, k_10, k_11, k_12, k_13, k_14, k_15, k_16, k_17, k_18, k_19, k_20, k_21, k_22, k_23, k_24, k_25, k_26, k_27, k_28, k_30, k_31, k_32, k_33, k_37, k_38, k_40, k_41, k_42, k_43, k_45, k_47, k_48, k_50, k_57, k_60, k_61, k_62, k_63, k_66, k_70, k_71, k_99, k_124, k_128, k_186, k_198, k_216, k_240, k_255, k_256, k_300, k_324, k_448, k_999, k_9999, k_10000, k_12345, k_20000, k_20001, k_20002, k_20003, k_20004, k_20005, k_20006, k_20007, k_20008, k_20009, k_20010, k_999999, k_100000000, k_m1, zl_add, zl_mul, zl_sub, zl_div, zl_mod, zl_lt, zl_le, zl_eq, zl_cl, zl_b, zm1_eq, zm1_eq2, zm1_lt, zm1_nlt, zm1_le, zm1_nle, z_guard, Option.bind_some, if_true, if_false, decide_true, m_walkOf, show ¬ 4 ≤ 1 by omega, show ¬ 1 = 0 by omega, d2, show w < 10 by omega, b2]
        exact zSim_i rfl rfl h
      · simp (disch := omega) only [k_0, k_1, k_2, k_3, k_4, k_5, k_6, k_7, k_8, k_9, k_10, k_11, k_12, k_13, k_14, k_15, k_16, k_17, k_18, k_19, k_20, k_21, k_22, k_23, k_24, k_25, k_26, k_27, k_28, k_30, k_31, k_32, k_33, k_37, k_38, k_40, k_41, k_42, k_43, k_45, k_47, k_48, k_50, k_57, k_60, k_61, k_62, k_63, k_66, k_70, k_71, k_99, k_124, k_128, k_186, k_198, k_216, k_240, k_255, k_256, k_300, k_324, k_448, k_999, k_9999, k_10000, k_12345, k_20000, k_20001, k_20002, k_20003, k_20004, k_20005, k_20006, k_20007, k_20008, k_20009, k_20010, k_999999, k_100000000, k_m1, zl_add, zl_mul, zl_sub, zl_div, zl_mod, zl_lt, zl_le, zl_eq, zl_cl, zl_b, zm1_eq, zm1_eq2, zm1_lt, zm1_nlt, zm1_le, zm1_nle, z_guard, Option.bind_some, if_true, if_false, decide_true, m_walkOf, show ¬ 4 ≤ 2 by omega, show ¬ 2 = 0 by omega, show ¬ 2 = 1 by omega, d3, show w < 10 by omega, b3]
        exact zSim_i rfl rfl h
      · simp (disch := omega) only [k_0, k_1, k_2, k_3, k_4, k_5, k_6, k_7, k_8, k_9, k_10, k_11, k_12, k_13, k_14, k_15, k_16, k_17, k_18, k_19, k_20, k_21, k_22, k_23, k_24, k_25, k_26, k_27, k_28, k_30, k_31, k_32, k_33, k_37, k_38, k_40, k_41, k_42, k_43, k_45, k_47, k_48, k_50, k_57, k_60, k_61, k_62, k_63, k_66, k_70, k_71, k_99, k_124, k_128, k_186, k_198, k_216, k_240, k_255, k_256, k_300, k_324, k_448, k_999, k_9999, k_10000, k_12345, k_20000, k_20001, k_20002, k_20003, k_20004, k_20005, k_20006, k_20007, k_20008, k_20009, k_20010, k_999999, k_100000000, k_m1, zl_add, zl_mul, zl_sub, zl_div, zl_mod, zl_lt, zl_le, zl_eq, zl_cl, zl_b, zm1_eq, zm1_eq2, zm1_lt, zm1_nlt, zm1_le, zm1_nle, z_guard, Option.bind_some, if_true, if_false, decide_true, m_walkOf, show ¬ 4 ≤ 3 by omega, show ¬ 3 = 0 by omega, show ¬ 3 = 1 by omega, show ¬ 3 = 2 by omega, d4, show w < 10 by omega, b4]
        exact zSim_i rfl rfl h
      · obtain ⟨r, I1, J1, e1, e2, e3⟩ := sim_isSo h hw hnw w2.1
        simp (disch := omega) only [k_0, k_1, k_2, k_3, k_4, k_5, k_6, k_7, k_8, k_9, k_10, k_11, k_12, k_13, k_14, k_15, k_16, k_17, k_18, k_19, k_20, k_21, k_22, k_23, k_24, k_25, k_26, k_27, k_28, k_30, k_31, k_32, k_33, k_37, k_38, k_40, k_41, k_42, k_43, k_45, k_47, k_48, k_50, k_57, k_60, k_61, k_62, k_63, k_66, k_70, k_71, k_99, k_124, k_128, k_186, k_198, k_216, k_240, k_255, k_256, k_300, k_324, k_448, k_999, k_9999, k_10000, k_12345, k_20000, k_20001, k_20002, k_20003, k_20004, k_20005, k_20006, k_20007, k_20008, k_20009, k_20010, k_999999, k_100000000, k_m1, zl_add, zl_mul, zl_sub, zl_div, zl_mod, zl_lt, zl_le, zl_eq, zl_cl, zl_b, zm1_eq, zm1_eq2, zm1_lt, zm1_nlt, zm1_le, zm1_nle, z_guard, Option.bind_some, if_true, if_false, decide_true, show ¬ 4 = 0 by omega, show ¬ 4 = 1 by omega, show ¬ 4 = 2 by omega, show ¬ 4 = 3 by omega, e1, e2, Nat.le_refl]
        by_cases hr : r = nI 0
        · simp only [hr, if_true]
          exact zSim_i rfl rfl e3
        · simp only [hr, if_false]
          exact zSim_i rfl rfl e3
    · simp only [hb, if_false, if_true]
      have hn : ∀ j : Nat, j ≤ 4 → ¬ b = nI j := fun j hj e => hb (by rw [e]; exact ⟨nI_pos' (by omega), nI_le (b := 4) hj (by omega)⟩)
      have q0 : ¬ b = (0 : Int32) := hn 0 (by omega)
      have q1 : ¬ b = (1 : Int32) := hn 1 (by omega)
      have q2 : ¬ b = (2 : Int32) := hn 2 (by omega)
      have q3 : ¬ b = (3 : Int32) := hn 3 (by omega)
      have q4 : ¬ b = (4 : Int32) := hn 4 (by omega)
      simp only [q0, q1, q2, q3, q4, if_false]
      exact zSim_e (zsim_err h (k := 1) (by omega) (by omega) rfl (by decide))
  · simp only [ha, if_true, if_false]
    exact zSim_e (zsim_err h (k := 1) (by omega) (by omega) rfl (by decide))
/-! kinds -/
def zund (k g : Nat) : Bool := (([[0], [1, 0], [2, 1, 0], [3, 1, 0], [4, 0], [5, 0], [6, 2, 1, 0]] : List (List Nat)).getD k []).elem g
theorem c_isUnder (I : zI) {k g : Nat} (hk : k < 7) (hg : g < 7) : fc_T_isUnder I (nI k) (nI g) = some (if zund k g then 1 else 0) := by
  rcases (show k = 0 ∨ k = 1 ∨ k = 2 ∨ k = 3 ∨ k = 4 ∨ k = 5 ∨ k = 6 by omega) with rfl | rfl | rfl | rfl | rfl | rfl | rfl <;> rcases (show g = 0 ∨ g = 1 ∨ g = 2 ∨ g = 3 ∨ g = 4 ∨ g = 5 ∨ g = 6 by omega) with rfl | rfl | rfl | rfl | rfl | rfl | rfl <;> rfl
theorem m_under (I : zI) (a : Int32) {k g : Nat} (hk : k < 7) (hg : g < 7) : fm_as_L33 100 a (nI g) (nI k) I = if zund k g then (fm_walkOf I a 2).bind fun r => some (r, I) else (fm_finding I (-1000005)).bind fun r => some (r.1, r.2) := by
  rcases (show k = 0 ∨ k = 1 ∨ k = 2 ∨ k = 3 ∨ k = 4 ∨ k = 5 ∨ k = 6 by omega) with rfl | rfl | rfl | rfl | rfl | rfl | rfl <;> rcases (show g = 0 ∨ g = 1 ∨ g = 2 ∨ g = 3 ∨ g = 4 ∨ g = 5 ∨ g = 6 by omega) with rfl | rfl | rfl | rfl | rfl | rfl | rfl <;> rfl
theorem sim_as {I J : zI} (h : rR I J) (a b : Int32) : zSim (fc_T_as I a b) (fm_as J a b) := by
  obtain ⟨⟨⟨ns, nj, cs, ea, eb, tt, nw, kd, bg, sp, mk, eg, np, pl, hr, nt, ly, wo, al, dm, nf, fw, fo, hG, hW, hF, hD⟩, hT, hP⟩, hX⟩ := id h
  obtain ⟨g1, g2, g3⟩ := id hG
  obtain ⟨c1, c2, c3, c4, c5⟩ := id g2
  obtain ⟨m1, m2, m3, m4⟩ := id g3
  have hns := g1.1
  have hnj := g1.2.1
  obtain ⟨w1, w2, w3⟩ := id hW
  have hnw := w1.1
  unfold fc_T_as fm_as
  rw [c_hasWalk w2.1 hnw, m_is (a := 2) (c := 2) rfl (by omega) w3.1 (by omega), mwi, cwi]
  simp only [Option.bind_some]
  by_cases ha : ∃ k, k < nw ∧ a = nI k
  · by_cases hb : 0 ≤ b ∧ b ≤ 6
    · simp only [ha, hb, and_self, if_true, z10, if_false]
      obtain ⟨w, hw, rfl⟩ := ha
      obtain ⟨a1, a2, a3, a4, a5⟩ := w1.2 w hw
      obtain ⟨b1, b2, b3, b4, b5⟩ := w2.2 w hw
      obtain ⟨d1, d2, d3, d4, d5⟩ := w3.2 w hw
      obtain ⟨y, -, hy2, rfl⟩ := zl_nat (a := 0) (b := 6) hb (by omega) (by omega)
      rw [show fm_walkOf J (nI w) 0 = some (nI (kd w)) by rw [k_0, m_walkOf (by omega) (by omega), Nat.add_zero, d1]]
      rw [show zb (nI w) 10 = true by rw [zl_b (by omega)]; exact decide_eq_true (by omega), zl_cl w (by omega), b1, b3]
      simp only [z_guard, if_true, Option.bind_some]
      rw [c_isUnder I a1 (by omega), m_under J (nI w) a1 (by omega), k_2, m_walkOf (by omega) (by omega), d3]
      by_cases hu : zund (kd w) y = true
      · simp only [hu, if_true, Option.bind_some, z10, if_false]
        exact zSim_i rfl rfl h
      · simp only [hu, Bool.false_eq_true, if_false, Option.bind_some, if_true]
        exact zSim_e (zsim_err h (k := 5) (by omega) (by omega) rfl (by decide))
    · simp only [ha, hb, if_true, z10, if_false]
      exact zSim_e (zsim_err h (k := 1) (by omega) (by omega) rfl (by decide))
  · simp only [ha, if_true, if_false]
    exact zSim_e (zsim_err h (k := 1) (by omega) (by omega) rfl (by decide))
