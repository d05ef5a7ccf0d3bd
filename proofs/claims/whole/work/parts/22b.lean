theorem zl_nat {x : Int32} {a b : Nat} (h : nI a ≤ x ∧ x ≤ nI b) (ha : a < 2 ^ 31) (hb : b < 2 ^ 31) : ∃ k, a ≤ k ∧ k ≤ b ∧ x = nI k := by
  have h0 := nI_pos' ha
  obtain ⟨j, hj, rfl⟩ := nI_of (x := x) (by grind)
  exact ⟨j, (nI_leI ha hj).mp h.1, (nI_leI hj hb).mp h.2, rfl⟩
theorem sim_square {I J : zI} (h : rR I J) (x : Int32) : zSim (fc_T_square I x) (fm_square J x) := by
  obtain ⟨⟨⟨ns, nj, cs, ea, eb, tt, nw, kd, bg, sp, mk, eg, np, pl, hr, nt, ly, wo, al, dm, nf, fw, fo, hG, hW, hF, hD⟩, hT, hP⟩, hX⟩ := id h
  obtain ⟨g1, g2, g3⟩ := id hG
  obtain ⟨c1, c2, c3, c4, c5⟩ := id g2
  obtain ⟨m1, m2, m3, m4⟩ := id g3
  have hns := g1.1
  have hnj := g1.2.1
  unfold fc_T_square fm_square
  rw [cwi, mwi]
  simp only [Option.bind_some]
  by_cases hx : 1 ≤ x ∧ x ≤ 99
  · simp only [hx, and_self, if_true, z10, if_false, c1, m1, zcl0]
    simp (disch := omega) only [k_0, k_1, k_2, k_3, k_4, k_5, k_6, k_7, k_8, k_9, k_10, k_11, k_12, k_13, k_14, k_15, k_16, k_17, k_18, k_19, k_20, k_21, k_22, k_23, k_24, k_25, k_26, k_27, k_28, k_30, k_31, k_32, k_33, k_37, k_38, k_40, k_41, k_42, k_43, k_45, k_47, k_48, k_50, k_57, k_60, k_61, k_62, k_63, k_66, k_70, k_71, k_99, k_124, k_128, k_186, k_198, k_216, k_240, k_255, k_256, k_300, k_324, k_448, k_999, k_9999, k_10000, k_12345, k_20000, k_20001, k_20002, k_20003, k_20004, k_20005, k_20006, k_20007, k_20008, k_20009, k_20010, k_999999, k_100000000, k_m1, zl_lt, zl_eq]
    by_cases h8 : ns < 8
    · have h9 : ¬ ns = 8 := by omega
      obtain ⟨cx, hc1, hc2, rfl⟩ := zl_nat (a := 1) (b := 99) hx (by omega) (by omega)
      simp (disch := omega) only [h8, h9, if_true, if_false, z_guard, zl_b, decide_true, zl_cl, zl_add, show 10 + ns < 448 by omega]
      refine ⟨_, _, _, rfl, rfl, rR_L hT hP hX ⟨ns + 1, nj, vup cs ns cx, ea, eb, tt, nw, kd, bg, sp, mk, eg, np, pl, hr, nt, ly, wo, al, dm, nf, fw, fo, ⟨⟨by omega, hnj, fun i hi => ?_, fun j hj => ?_, g1.2.2.2.2⟩, ⟨by (unfold zup; repeat (first | rw [if_neg (by omega)] | rw [if_pos (by omega)])), by (unfold zup; repeat (first | rw [if_neg (by omega)] | rw [if_pos (by omega)])); exact c2, fun i hi => ?_, fun j hj => ?_, fun e he => ?_⟩, ⟨by (unfold zup; repeat (first | rw [if_neg (by omega)] | rw [if_pos (by omega)])); rw [m1, zl_add], by (unfold zup; repeat (first | rw [if_neg (by omega)] | rw [if_pos (by omega)])); exact m2, fun i hi => ?_, fun j hj => ?_⟩⟩, keepW hW (by omega) (by intros; unfold zup; repeat rw [if_neg (by omega)]) (by intros; unfold zup; repeat rw [if_neg (by omega)]), keepF hF (by omega) (by intros; unfold zup; repeat rw [if_neg (by omega)]) (by intros; unfold zup; repeat rw [if_neg (by omega)]), keepD hD (Nat.le_refl _) (Nat.le_refl _) (by intros; unfold zup; repeat rw [if_neg (by omega)]) (by intros; unfold zup; repeat rw [if_neg (by omega)])⟩ (by intros c k hc; unfold zxrel at hc; unfold zup; repeat rw [if_neg (by omega)]) (by intros; unfold zup; repeat rw [if_neg (by omega)]) (by intros c k hc; unfold mxrel at hc; unfold zup; repeat rw [if_neg (by omega)])⟩
      · by_cases hi2 : i = ns
        · subst hi2; rw [vup_s]; exact ⟨hc1, hc2⟩
        · rw [vup_n hi2]; exact g1.2.2.1 i (by omega)
      · have := g1.2.2.2.1 j hj; omega
      · by_cases hi2 : i = ns
        · subst hi2; rw [vup_s, zup_o (by omega), zup_y]
        · rw [vup_n hi2, zup_o (by omega), zup_o (by omega)]; exact c3 i (by omega)
      · rw [zup_o (by omega), zup_o (by omega), zup_o (by omega), zup_o (by omega), zup_o (by omega), zup_o (by omega)]; exact c4 j hj
      · rw [zup_o (by omega), zup_o (by omega)]; exact c5 e he
      · by_cases hi2 : i = ns
        · subst hi2; rw [vup_s, zup_o (by omega), zup_y]
        · rw [vup_n hi2, zup_o (by omega), zup_o (by omega)]; exact m3 i (by omega)
      · rw [zup_o (by omega), zup_o (by omega), zup_o (by omega), zup_o (by omega), zup_o (by omega), zup_o (by omega)]; exact m4 j hj
    · have h9 : ns = 8 := by omega
      simp only [h8, h9, if_true, if_false]
      exact zSim_e (zsim_err h (k := 4) (by omega) (by omega) rfl (by decide))
  · simp only [hx, if_false, if_true]
    exact zSim_e (zsim_err h (k := 1) (by omega) (by omega) rfl (by decide))
theorem sim_cost {I J : zI} (h : rR I J) (a x : Int32) : zSim (fc_T_cost I a x) (fm_cost J a x) := by
  obtain ⟨⟨⟨ns, nj, cs, ea, eb, tt, nw, kd, bg, sp, mk, eg, np, pl, hr, nt, ly, wo, al, dm, nf, fw, fo, hG, hW, hF, hD⟩, hT, hP⟩, hX⟩ := id h
  obtain ⟨g1, g2, g3⟩ := id hG
  obtain ⟨c1, c2, c3, c4, c5⟩ := id g2
  obtain ⟨m1, m2, m3, m4⟩ := id g3
  have hns := g1.1
  have hnj := g1.2.1
  unfold fc_T_cost fm_cost
  rw [c_hasSquare c1 hns, m_is (a := 0) (c := 0) rfl (by omega) m1 (by omega), cwi, mwi]
  simp only [Option.bind_some]
  by_cases ha : ∃ k, k < ns ∧ a = nI k
  · by_cases hx : 1 ≤ x ∧ x ≤ 99
    · simp only [ha, hx, and_self, if_true, z10, if_false]
      obtain ⟨k, hk, rfl⟩ := ha
      obtain ⟨cx, hc1, hc2, rfl⟩ := zl_nat (a := 1) (b := 99) hx (by omega) (by omega)
      rw [m_become (c := 10 + k) (by rw [k_10, zl_add]) (by omega)]
      simp (disch := omega) only [z_guard, zl_b, show k < 8 by omega, decide_true, if_true, zl_cl, Option.bind_some]
      refine ⟨_, _, _, rfl, by rw [c3 k hk, m3 k hk], rR_L hT hP hX ⟨ns, nj, vup cs k cx, ea, eb, tt, nw, kd, bg, sp, mk, eg, np, pl, hr, nt, ly, wo, al, dm, nf, fw, fo, ⟨⟨hns, hnj, fun i hi => ?_, g1.2.2.2⟩, ⟨by (unfold zup; repeat (first | rw [if_neg (by omega)] | rw [if_pos (by omega)])); exact c1, by (unfold zup; repeat (first | rw [if_neg (by omega)] | rw [if_pos (by omega)])); exact c2, fun i hi => ?_, fun j hj => ?_, fun e he => ?_⟩, ⟨by (unfold zup; repeat (first | rw [if_neg (by omega)] | rw [if_pos (by omega)])); exact m1, by (unfold zup; repeat (first | rw [if_neg (by omega)] | rw [if_pos (by omega)])); exact m2, fun i hi => ?_, fun j hj => ?_⟩⟩, keepW hW (by omega) (by intros; unfold zup; repeat rw [if_neg (by omega)]) (by intros; unfold zup; repeat rw [if_neg (by omega)]), keepF hF (by omega) (by intros; unfold zup; repeat rw [if_neg (by omega)]) (by intros; unfold zup; repeat rw [if_neg (by omega)]), keepD hD (Nat.le_refl _) (Nat.le_refl _) (by intros; unfold zup; repeat rw [if_neg (by omega)]) (by intros; unfold zup; repeat rw [if_neg (by omega)])⟩ (by intros c k hc; unfold zxrel at hc; unfold zup; repeat rw [if_neg (by omega)]) (by intros; unfold zup; repeat rw [if_neg (by omega)]) (by intros c k hc; unfold mxrel at hc; unfold zup; repeat rw [if_neg (by omega)])⟩
      · by_cases hi2 : i = k
        · subst hi2; rw [vup_s]; exact ⟨hc1, hc2⟩
        · rw [vup_n hi2]; exact g1.2.2.1 i (by omega)
      · by_cases hi2 : i = k
        · subst hi2; rw [vup_s, zup_y]
        · rw [vup_n hi2, zup_o (by omega)]; exact c3 i (by omega)
      · rw [zup_o (by omega), zup_o (by omega), zup_o (by omega)]; exact c4 j hj
      · rw [zup_o (by omega)]; exact c5 e he
      · by_cases hi2 : i = k
        · subst hi2; rw [vup_s, zup_y]
        · rw [vup_n hi2, zup_o (by omega)]; exact m3 i (by omega)
      · rw [zup_o (by omega), zup_o (by omega), zup_o (by omega)]; exact m4 j hj
    · simp only [ha, hx, if_false, if_true, z10]
      exact zSim_e (zsim_err h (k := 1) (by omega) (by omega) rfl (by decide))
  · simp only [ha, if_false, if_true]
    exact zSim_e (zsim_err h (k := 1) (by omega) (by omega) rfl (by decide))
/-! joins -/
def oe (ea eb : Nat → Nat) (nj e : Nat) : Option Nat := (jn ea eb nj e).map fun j => if ea j = e then eb j else ea j
theorem m_joinOf {J : zI} {j f : Nat} (hj : j < 16) (hf : f < 3) : fm_joinOf J (nI j) (nI f) = some (J 1 (18 + 3 * j + f)) := by
  unfold fm_joinOf
  simp (disch := omega) only [k_0, k_1, k_2, k_3, k_4, k_5, k_6, k_7, k_8, k_9, k_10, k_11, k_12, k_13, k_14, k_15, k_16, k_17, k_18, k_19, k_20, k_21, k_22, k_23, k_24, k_25, k_26, k_27, k_28, k_30, k_31, k_32, k_33, k_37, k_38, k_40, k_41, k_42, k_43, k_45, k_47, k_48, k_50, k_57, k_60, k_61, k_62, k_63, k_66, k_70, k_71, k_99, k_124, k_128, k_186, k_198, k_216, k_240, k_255, k_256, k_300, k_324, k_448, k_999, k_9999, k_10000, k_12345, k_20000, k_20001, k_20002, k_20003, k_20004, k_20005, k_20006, k_20007, k_20008, k_20009, k_20010, k_999999, k_100000000, k_m1, zl_mul, zl_add, zl_b, zl_cl, z_guard, show 18 + 3 * j + f < 448 by omega, decide_true, if_true]
theorem m_joinAt_L {J : zI} {ns nj : Nat} {cs ea eb tt : Nat → Nat} (hnj : nj ≤ 16) (hw : ∀ j, j < nj → ea j < 32 ∧ eb j < 32) (h : gM (J 1) ns nj cs ea eb tt) {e : Nat} (he : e < 32) : ∀ m fuel k, k + m = nj → m < fuel → fm_joinAt_L4 J fuel (nI e) (jv (jn ea eb k e)) (nI k) = some (jv (jn ea eb nj e)) := by
  obtain ⟨m1, m2, m3, m4⟩ := h
  intro m
  induction m with
  | zero =>
    intro fuel k hk hf
    obtain ⟨f, rfl⟩ : ∃ f, fuel = f + 1 := ⟨fuel - 1, by omega⟩
    have : k = nj := by omega
    subst this
    rw [fm_joinAt_L4, zcl1, m2]
    simp (disch := omega) only [zl_le, Nat.le_refl, if_true]
  | succ m ih =>
    intro fuel k hk hf
    obtain ⟨f, rfl⟩ : ∃ f, fuel = f + 1 := ⟨fuel - 1, by omega⟩
    obtain ⟨a1, a2, a3⟩ := m4 k (by omega)
    obtain ⟨b1, b2⟩ := hw k (by omega)
    have i1 := ih f (k + 1) (by omega) (by omega)
    rw [fm_joinAt_L4, zcl1, m2]
    have n1 : ¬ nj ≤ k := by omega
    rw [jn] at i1
    simp (disch := omega) only [k_0, k_1, k_2, k_3, k_4, k_5, k_6, k_7, k_8, k_9, k_10, k_11, k_12, k_13, k_14, k_15, k_16, k_17, k_18, k_19, k_20, k_21, k_22, k_23, k_24, k_25, k_26, k_27, k_28, k_30, k_31, k_32, k_33, k_37, k_38, k_40, k_41, k_42, k_43, k_45, k_47, k_48, k_50, k_57, k_60, k_61, k_62, k_63, k_66, k_70, k_71, k_99, k_124, k_128, k_186, k_198, k_216, k_240, k_255, k_256, k_300, k_324, k_448, k_999, k_9999, k_10000, k_12345, k_20000, k_20001, k_20002, k_20003, k_20004, k_20005, k_20006, k_20007, k_20008, k_20009, k_20010, k_999999, k_100000000, k_m1, zl_le, n1, if_false, m_joinOf, Option.bind_some, a1, a2, Nat.add_zero, zl_eq, zl_add]
    by_cases h1 : ea k = e
    · rw [if_pos h1]
      rw [if_pos (Or.inl h1)] at i1
      exact i1
    · rw [if_neg h1]
      by_cases h2 : eb k = e
      · rw [if_pos h2]
        rw [if_pos (Or.inr h2)] at i1
        exact i1
      · rw [if_neg h2]
        rw [if_neg (by omega)] at i1
        exact i1
theorem wfG_32 {ns nj : Nat} {cs ea eb tt : Nat → Nat} (h : wfG ns nj cs ea eb tt) : ∀ j, j < nj → ea j < 32 ∧ eb j < 32 := fun j hj => by
  have := h.2.2.2.1 j hj
  have := h.1
  omega
theorem m_joinAt {J : zI} {ns nj : Nat} {cs ea eb tt : Nat → Nat} (hw : wfG ns nj cs ea eb tt) (h : gM (J 1) ns nj cs ea eb tt) {e : Nat} (he : e < 32) : fm_joinAt J (nI e) = some (jv (jn ea eb nj e)) := by
  unfold fm_joinAt
  exact m_joinAt_L hw.2.1 (wfG_32 hw) h he nj 100 0 (by omega) (by have := hw.2.1; omega)
theorem m_otherOf {J : zI} {ns nj : Nat} {cs ea eb tt : Nat → Nat} (hw : wfG ns nj cs ea eb tt) (h : gM (J 1) ns nj cs ea eb tt) {e j : Nat} (he : e < 32) (hj : j < nj) : fm_otherOf J (nI j) (nI e) = some (nI (if ea j = e then eb j else ea j)) := by
  obtain ⟨m1, m2, m3, m4⟩ := h
  obtain ⟨a1, a2, a3⟩ := m4 j hj
  obtain ⟨b1, b2⟩ := wfG_32 hw j hj
  have := hw.2.1
  unfold fm_otherOf
  simp (disch := omega) only [k_0, k_1, k_2, k_3, k_4, k_5, k_6, k_7, k_8, k_9, k_10, k_11, k_12, k_13, k_14, k_15, k_16, k_17, k_18, k_19, k_20, k_21, k_22, k_23, k_24, k_25, k_26, k_27, k_28, k_30, k_31, k_32, k_33, k_37, k_38, k_40, k_41, k_42, k_43, k_45, k_47, k_48, k_50, k_57, k_60, k_61, k_62, k_63, k_66, k_70, k_71, k_99, k_124, k_128, k_186, k_198, k_216, k_240, k_255, k_256, k_300, k_324, k_448, k_999, k_9999, k_10000, k_12345, k_20000, k_20001, k_20002, k_20003, k_20004, k_20005, k_20006, k_20007, k_20008, k_20009, k_20010, k_999999, k_100000000, k_m1, m_joinOf, Option.bind_some, a1, a2, Nat.add_zero, zl_eq]
  by_cases h1 : ea j = e
  · simp only [h1, if_true]
  · simp only [h1, if_false]
theorem c_otherEdge {V : zI} {ns nj : Nat} {cs ea eb tt : Nat → Nat} (hw : wfG ns nj cs ea eb tt) (h : gC V ns nj cs ea eb tt) {e : Nat} (he : e < 4 * ns) : fc_Ground_otherEdge V (nI e) = some (jv (oe ea eb nj e)) := by
  obtain ⟨c1, c2, c3, c4, c5⟩ := h
  have hns := hw.1
  have hnj := hw.2.1
  unfold fc_Ground_otherEdge
  rw [c_hasEdge c1 hns]
  have hk : ∃ k, k < 4 * ns ∧ nI e = nI k := ⟨e, he, rfl⟩
  simp (disch := omega) only [hk, if_true, Option.bind_some, z10, if_false, z_guard, zl_b, show e < 32 by omega, decide_true, zl_cl, c5 e (by omega)]
  cases hj : jn ea eb nj e with
  | none => simp [jv, oe, hj]
  | some j =>
    obtain ⟨q1, q2⟩ := jn_some hj
    obtain ⟨a1, a2, a3⟩ := c4 j q1
    obtain ⟨b1, b2⟩ := wfG_32 hw j q1
    simp (disch := omega) only [jv, k_0, k_1, k_2, k_3, k_4, k_5, k_6, k_7, k_8, k_9, k_10, k_11, k_12, k_13, k_14, k_15, k_16, k_17, k_18, k_19, k_20, k_21, k_22, k_23, k_24, k_25, k_26, k_27, k_28, k_30, k_31, k_32, k_33, k_37, k_38, k_40, k_41, k_42, k_43, k_45, k_47, k_48, k_50, k_57, k_60, k_61, k_62, k_63, k_66, k_70, k_71, k_99, k_124, k_128, k_186, k_198, k_216, k_240, k_255, k_256, k_300, k_324, k_448, k_999, k_9999, k_10000, k_12345, k_20000, k_20001, k_20002, k_20003, k_20004, k_20005, k_20006, k_20007, k_20008, k_20009, k_20010, k_999999, k_100000000, k_m1, zl_add, zl_mul, zl_sub, zl_div, zl_mod, zl_lt, zl_le, zl_eq, zl_cl, zl_b, zm1_eq, zm1_eq2, zm1_lt, zm1_nlt, zm1_le, zm1_nle, z_guard, Option.bind_some, if_true, if_false, decide_true, show 2 * j < 32 by omega, show 2 * j + 1 < 32 by omega, a1, a2, oe, hj, Option.map_some]
    by_cases h1 : ea j = e
    · simp only [h1, if_true]
    · simp only [h1, if_false]
theorem zSim_i {v : Int32} {a b : Option (Int32 × zI)} {I J : zI} (ha : a = some (v, I)) (hb : b = some (v, J)) (h : rR I J) : zSim a b := ⟨v, I, J, ha, hb, h⟩
theorem sim_across {I J : zI} (h : rR I J) (a : Int32) : zSim (fc_T_across I a) (fm_across J a) := by
  obtain ⟨⟨⟨ns, nj, cs, ea, eb, tt, nw, kd, bg, sp, mk, eg, np, pl, hr, nt, ly, wo, al, dm, nf, fw, fo, hG, hW, hF, hD⟩, hT, hP⟩, hX⟩ := id h
  obtain ⟨g1, g2, g3⟩ := id hG
  obtain ⟨c1, c2, c3, c4, c5⟩ := id g2
  obtain ⟨m1, m2, m3, m4⟩ := id g3
  have hns := g1.1
  have hnj := g1.2.1
  unfold fc_T_across fm_across
  rw [c_hasEdge c1 hns, m_isEdge m1 hns]
  simp only [Option.bind_some]
  by_cases ha : ∃ k, k < 4 * ns ∧ a = nI k
  · simp only [ha, if_true, z10, if_false]
    obtain ⟨e, he, rfl⟩ := ha
    rw [c_otherEdge g1 g2 he, m_joinAt g1 g3 (by omega)]
    unfold oe
    simp only [Option.bind_some]
    cases hj : jn ea eb nj e with
    | none =>
      have e1 : ¬ (0 : Int32) ≤ -1 := by decide
      simp only [Option.map_none, jv, if_true, e1, if_false]
      exact zSim_e (zsim_err h (k := 2) (by omega) (by omega) rfl (by decide))
    | some j =>
      obtain ⟨q1, q2⟩ := jn_some hj
      obtain ⟨b1, b2⟩ := wfG_32 g1 j q1
      have e1 : (0 : Int32) ≤ nI j := nI_pos' (by omega)
      have e2 : ¬ nI (if ea j = e then eb j else ea j) = -1 := by
        rw [zl_eqm1]
        · simp
        · split <;> omega
      simp only [Option.map_some, jv, e1, e2, if_true, if_false, m_otherOf g1 g3 (show e < 32 by omega) q1, Option.bind_some]
      exact zSim_i rfl rfl h
  · simp only [ha, if_false, if_true]
    exact zSim_e (zsim_err h (k := 1) (by omega) (by omega) rfl (by decide))
theorem sim_joinIs {I J : zI} (h : rR I J) (a w : Int32) : zSim (fc_T_joinIs I a w) (fm_joinIs J a w) := by
  obtain ⟨⟨⟨ns, nj, cs, ea, eb, tt, nw, kd, bg, sp, mk, eg, np, pl, hr, nt, ly, wo, al, dm, nf, fw, fo, hG, hW, hF, hD⟩, hT, hP⟩, hX⟩ := id h
  obtain ⟨g1, g2, g3⟩ := id hG
  obtain ⟨c1, c2, c3, c4, c5⟩ := id g2
  obtain ⟨m1, m2, m3, m4⟩ := id g3
  have hns := g1.1
  have hnj := g1.2.1
  unfold fc_T_joinIs fm_joinIs
  rw [c_hasJoin c2 hnj, m_is (a := 1) (c := 1) rfl (by omega) m2 (by omega), cwi, mwi]
  simp only [Option.bind_some]
  by_cases ha : ∃ k, k < nj ∧ a = nI k
  · by_cases hx : 0 ≤ w ∧ w ≤ 2
    · simp only [ha, hx, and_self, if_true, z10, if_false]
      obtain ⟨k, hk, rfl⟩ := ha
      obtain ⟨f, hf1, hf2, rfl⟩ := zl_nat (a := 0) (b := 2) hx (by omega) (by omega)
      obtain ⟨a1, a2, a3⟩ := c4 k hk
      obtain ⟨b1, b2, b3⟩ := m4 k hk
      rw [m_joinOf (by omega) (by omega)]
      rcases (show f = 0 ∨ f = 1 ∨ f = 2 by omega) with rfl | rfl | rfl
      · refine zSim_i (v := nI (ea k)) ?_ ?_ h
        · simp (disch := omega) only [k_0, k_1, k_2, k_3, k_4, k_5, k_6, k_7, k_8, k_9, k_10, k_11, k_12, k_13, k_14, k_15, k_16, k_17, k_18, k_19, k_20, k_21, k_22, k_23, k_24, k_25, k_26, k_27, k_28, k_30, k_31, k_32, k_33, k_37, k_38, k_40, k_41, k_42, k_43, k_45, k_47, k_48, k_50, k_57, k_60, k_61, k_62, k_63, k_66, k_70, k_71, k_99, k_124, k_128, k_186, k_198, k_216, k_240, k_255, k_256, k_300, k_324, k_448, k_999, k_9999, k_10000, k_12345, k_20000, k_20001, k_20002, k_20003, k_20004, k_20005, k_20006, k_20007, k_20008, k_20009, k_20010, k_999999, k_100000000, k_m1, zl_add, zl_mul, zl_sub, zl_div, zl_mod, zl_lt, zl_le, zl_eq, zl_cl, zl_b, zm1_eq, zm1_eq2, zm1_lt, zm1_nlt, zm1_le, zm1_nle, z_guard, Option.bind_some, if_true, if_false, decide_true, show ¬ (0 = 2) by omega, show 2 * k < 32 by omega, Nat.add_zero, a1]
        · simp only [Option.bind_some, Nat.add_zero, b1]
      · refine zSim_i (v := nI (eb k)) ?_ ?_ h
        · simp (disch := omega) only [k_0, k_1, k_2, k_3, k_4, k_5, k_6, k_7, k_8, k_9, k_10, k_11, k_12, k_13, k_14, k_15, k_16, k_17, k_18, k_19, k_20, k_21, k_22, k_23, k_24, k_25, k_26, k_27, k_28, k_30, k_31, k_32, k_33, k_37, k_38, k_40, k_41, k_42, k_43, k_45, k_47, k_48, k_50, k_57, k_60, k_61, k_62, k_63, k_66, k_70, k_71, k_99, k_124, k_128, k_186, k_198, k_216, k_240, k_255, k_256, k_300, k_324, k_448, k_999, k_9999, k_10000, k_12345, k_20000, k_20001, k_20002, k_20003, k_20004, k_20005, k_20006, k_20007, k_20008, k_20009, k_20010, k_999999, k_100000000, k_m1, zl_add, zl_mul, zl_sub, zl_div, zl_mod, zl_lt, zl_le, zl_eq, zl_cl, zl_b, zm1_eq, zm1_eq2, zm1_lt, zm1_nlt, zm1_le, zm1_nle, z_guard, Option.bind_some, if_true, if_false, decide_true, show ¬ (1 = 2) by omega, show 2 * k + 1 < 32 by omega, a2]
        · simp only [Option.bind_some, b2]
      · refine zSim_i (v := nI (tt k)) ?_ ?_ h
        · simp (disch := omega) only [k_0, k_1, k_2, k_3, k_4, k_5, k_6, k_7, k_8, k_9, k_10, k_11, k_12, k_13, k_14, k_15, k_16, k_17, k_18, k_19, k_20, k_21, k_22, k_23, k_24, k_25, k_26, k_27, k_28, k_30, k_31, k_32, k_33, k_37, k_38, k_40, k_41, k_42, k_43, k_45, k_47, k_48, k_50, k_57, k_60, k_61, k_62, k_63, k_66, k_70, k_71, k_99, k_124, k_128, k_186, k_198, k_216, k_240, k_255, k_256, k_300, k_324, k_448, k_999, k_9999, k_10000, k_12345, k_20000, k_20001, k_20002, k_20003, k_20004, k_20005, k_20006, k_20007, k_20008, k_20009, k_20010, k_999999, k_100000000, k_m1, zl_add, zl_mul, zl_sub, zl_div, zl_mod, zl_lt, zl_le, zl_eq, zl_cl, zl_b, zm1_eq, zm1_eq2, zm1_lt, zm1_nlt, zm1_le, zm1_nle, z_guard, Option.bind_some, if_true, if_false, decide_true, show k < 16 by omega, a3]
        · simp only [Option.bind_some, b3]
    · simp only [ha, hx, if_false, if_true, z10]
      exact zSim_e (zsim_err h (k := 1) (by omega) (by omega) rfl (by decide))
  · simp only [ha, if_false, if_true]
    exact zSim_e (zsim_err h (k := 1) (by omega) (by omega) rfl (by decide))
theorem sim_turn {I J : zI} (h : rR I J) (a x : Int32) : zSim (fc_T_turn I a x) (fm_turn J a x) := by
  obtain ⟨⟨⟨ns, nj, cs, ea, eb, tt, nw, kd, bg, sp, mk, eg, np, pl, hr, nt, ly, wo, al, dm, nf, fw, fo, hG, hW, hF, hD⟩, hT, hP⟩, hX⟩ := id h
  obtain ⟨g1, g2, g3⟩ := id hG
  obtain ⟨c1, c2, c3, c4, c5⟩ := id g2
  obtain ⟨m1, m2, m3, m4⟩ := id g3
  have hns := g1.1
  have hnj := g1.2.1
  unfold fc_T_turn fm_turn
  rw [c_hasJoin c2 hnj, m_is (a := 1) (c := 1) rfl (by omega) m2 (by omega), cwi, mwi]
  simp only [Option.bind_some]
  by_cases ha : ∃ k, k < nj ∧ a = nI k
  · by_cases hx : 0 ≤ x ∧ x ≤ 1
    · simp only [ha, hx, and_self, if_true, z10, if_false]
      obtain ⟨k, hk, rfl⟩ := ha
      obtain ⟨t, ht1, ht2, rfl⟩ := zl_nat (a := 0) (b := 1) hx (by omega) (by omega)
      obtain ⟨a1, a2, a3⟩ := c4 k hk
      obtain ⟨b1, b2, b3⟩ := m4 k hk
      rw [m_become (c := 18 + 3 * k + 2) (by simp only [k_0, k_1, k_2, k_3, k_4, k_5, k_6, k_7, k_8, k_9, k_10, k_11, k_12, k_13, k_14, k_15, k_16, k_17, k_18, k_19, k_20, k_21, k_22, k_23, k_24, k_25, k_26, k_27, k_28, k_30, k_31, k_32, k_33, k_37, k_38, k_40, k_41, k_42, k_43, k_45, k_47, k_48, k_50, k_57, k_60, k_61, k_62, k_63, k_66, k_70, k_71, k_99, k_124, k_128, k_186, k_198, k_216, k_240, k_255, k_256, k_300, k_324, k_448, k_999, k_9999, k_10000, k_12345, k_20000, k_20001, k_20002, k_20003, k_20004, k_20005, k_20006, k_20007, k_20008, k_20009, k_20010, k_999999, k_100000000, k_m1, zl_mul, zl_add]) (by omega)]
      simp (disch := omega) only [k_0, k_1, k_2, k_3, k_4, k_5, k_6, k_7, k_8, k_9, k_10, k_11, k_12, k_13, k_14, k_15, k_16, k_17, k_18, k_19, k_20, k_21, k_22, k_23, k_24, k_25, k_26, k_27, k_28, k_30, k_31, k_32, k_33, k_37, k_38, k_40, k_41, k_42, k_43, k_45, k_47, k_48, k_50, k_57, k_60, k_61, k_62, k_63, k_66, k_70, k_71, k_99, k_124, k_128, k_186, k_198, k_216, k_240, k_255, k_256, k_300, k_324, k_448, k_999, k_9999, k_10000, k_12345, k_20000, k_20001, k_20002, k_20003, k_20004, k_20005, k_20006, k_20007, k_20008, k_20009, k_20010, k_999999, k_100000000, k_m1, zl_add, zl_mul, zl_sub, zl_div, zl_mod, zl_lt, zl_le, zl_eq, zl_cl, zl_b, zm1_eq, zm1_eq2, zm1_lt, zm1_nlt, zm1_le, zm1_nle, z_guard, Option.bind_some, if_true, if_false, decide_true, show k < 16 by omega]
      refine zSim_i rfl (by rw [a3, b3]) (rR_L hT hP hX ⟨ns, nj, cs, ea, eb, vup tt k t, nw, kd, bg, sp, mk, eg, np, pl, hr, nt, ly, wo, al, dm, nf, fw, fo, ⟨⟨hns, hnj, g1.2.2.1, fun j hj => ?_, g1.2.2.2.2⟩, ⟨by (unfold zup; repeat (first | rw [if_neg (by omega)] | rw [if_pos (by omega)])); exact c1, by (unfold zup; repeat (first | rw [if_neg (by omega)] | rw [if_pos (by omega)])); exact c2, fun i hi => ?_, fun j hj => ?_, fun e he => ?_⟩, ⟨by (unfold zup; repeat (first | rw [if_neg (by omega)] | rw [if_pos (by omega)])); exact m1, by (unfold zup; repeat (first | rw [if_neg (by omega)] | rw [if_pos (by omega)])); exact m2, fun i hi => ?_, fun j hj => ?_⟩⟩, keepW hW (by omega) (by intros; unfold zup; repeat rw [if_neg (by omega)]) (by intros; unfold zup; repeat rw [if_neg (by omega)]), keepF hF (by omega) (by intros; unfold zup; repeat rw [if_neg (by omega)]) (by intros; unfold zup; repeat rw [if_neg (by omega)]), keepD hD (Nat.le_refl _) (Nat.le_refl _) (by intros; unfold zup; repeat rw [if_neg (by omega)]) (by intros; unfold zup; repeat rw [if_neg (by omega)])⟩ (by intros c k hc; unfold zxrel at hc; unfold zup; repeat rw [if_neg (by omega)]) (by intros; unfold zup; repeat rw [if_neg (by omega)]) (by intros c k hc; unfold mxrel at hc; unfold zup; repeat rw [if_neg (by omega)]))
      · obtain ⟨d1, d2, d3, d4⟩ := g1.2.2.2.1 j hj
        refine ⟨d1, d2, d3, ?_⟩
        by_cases hj2 : j = k
        · subst hj2; rw [vup_s]; omega
        · rw [vup_n hj2]; exact d4
      · rw [zup_o (by omega)]; exact c3 i hi
      · obtain ⟨d1, d2, d3⟩ := c4 j hj
        refine ⟨by (unfold zup; repeat (first | rw [if_neg (by omega)] | rw [if_pos (by omega)])); exact d1, by (unfold zup; repeat (first | rw [if_neg (by omega)] | rw [if_pos (by omega)])); exact d2, ?_⟩
        by_cases hj2 : j = k
        · subst hj2; rw [vup_s, zup_y]
        · rw [vup_n hj2, zup_o (by omega)]; exact d3
      · rw [zup_o (by omega)]; exact c5 e he
      · rw [zup_o (by omega)]; exact m3 i hi
      · obtain ⟨d1, d2, d3⟩ := m4 j hj
        refine ⟨by (unfold zup; repeat (first | rw [if_neg (by omega)] | rw [if_pos (by omega)])); exact d1, by (unfold zup; repeat (first | rw [if_neg (by omega)] | rw [if_pos (by omega)])); exact d2, ?_⟩
        by_cases hj2 : j = k
        · subst hj2; rw [vup_s, zup_y]
        · rw [vup_n hj2, zup_o (by omega)]; exact d3
    · simp only [ha, hx, if_false, if_true, z10]
      exact zSim_e (zsim_err h (k := 1) (by omega) (by omega) rfl (by decide))
  · simp only [ha, if_false, if_true]
    exact zSim_e (zsim_err h (k := 1) (by omega) (by omega) rfl (by decide))
