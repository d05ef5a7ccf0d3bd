/-! join, part -/
def jerr (ns nj : Nat) (ea eb : Nat → Nat) (a b t : Int32) : Nat :=
  if ¬ (∃ k, k < 4 * ns ∧ a = nI k) ∨ ¬ (∃ k, k < 4 * ns ∧ b = nI k) ∨ a = b ∨ ¬ (0 ≤ t ∧ t ≤ 1) then 1
  else if jn ea eb nj a.toNatClampNeg ≠ none ∨ jn ea eb nj b.toNatClampNeg ≠ none then 3
  else if nj = 16 then 4 else 0
theorem c_joinError {V : zI} {ns nj : Nat} {cs ea eb tt : Nat → Nat} (g1 : wfG ns nj cs ea eb tt) (h : gC V ns nj cs ea eb tt) (a b t : Int32) : fc_Ground_joinError V a b t = some (nI (jerr ns nj ea eb a b t)) := by
  obtain ⟨c1, c2, c3, c4, c5⟩ := h
  have hns := g1.1
  have hnj := g1.2.1
  have J26 : ∀ a b t, fc_Ground_joinError_J26 V a b t 0 = some (nI 1) := fun a b t => by unfold fc_Ground_joinError_J26; simp [k_1]
  have J25 : ∀ a b t, fc_Ground_joinError_J25 V a b t = some (nI 1) := fun a b t => by unfold fc_Ground_joinError_J25; exact J26 a b t
  unfold fc_Ground_joinError jerr
  rw [c_hasEdge c1 hns]
  by_cases ha : ∃ k, k < 4 * ns ∧ a = nI k
  · simp only [ha, if_true, Option.bind_some, z10, if_false, not_true, false_or]
    rw [c_hasEdge c1 hns]
    by_cases hb : ∃ k, k < 4 * ns ∧ b = nI k
    · simp only [hb, if_true, Option.bind_some, z10, if_false, not_true, false_or]
      by_cases hab : a = b
      · simp only [hab, if_true, true_or, J25]
      · simp only [hab, if_false, false_or]
        unfold fc_Ground_joinError_J26
        rw [cwi]
        simp only [z10, if_false, Option.bind_some]
        by_cases ht : 0 ≤ t ∧ t ≤ 1
        · simp only [ht, and_self, if_true, z10, if_false, not_true]
          obtain ⟨x, hx, rfl⟩ := ha
          obtain ⟨y, hy, rfl⟩ := hb
          simp (disch := omega) only [z_guard, zl_b, zl_cl, show x < 32 by omega, show y < 32 by omega, decide_true, if_true, c5 x (by omega), c5 y (by omega), c2]
          cases e1 : jn ea eb nj x with
          | some j1 => simp (disch := have := (jn_some e1).1; omega) [jv, zl_eqm1, k_3]
          | none =>
            cases e2 : jn ea eb nj y with
            | some j2 => simp (disch := have := (jn_some e2).1; omega) [jv, zl_eqm1, k_3]
            | none =>
              simp only [jv, if_true, ne_eq, not_true, or_self, if_false]
              simp (disch := omega) only [k_0, k_1, k_2, k_3, k_4, k_5, k_6, k_7, k_8, k_9, k_10, k_11, k_12, k_13, k_14, k_15, k_16, k_17, k_18, k_19, k_20, k_21, k_22, k_23, k_24, k_25, k_26, k_27, k_28, k_30, k_31, k_32, k_33, k_37, k_38, k_40, k_41, k_42, k_43, k_45, k_47, k_48, k_50, k_57, k_60, k_61, k_62, k_63, k_66, k_70, k_71, k_99, k_124, k_128, k_186, k_198, k_216, k_240, k_255, k_256, k_300, k_324, k_448, k_999, k_9999, k_10000, k_12345, k_20000, k_20001, k_20002, k_20003, k_20004, k_20005, k_20006, k_20007, k_20008, k_20009, k_20010, k_999999, k_100000000, k_m1, zl_lt]
              by_cases h16 : nj = 16
              · simp [h16]
              · simp [h16, show nj < 16 by omega]
        · simp only [ht, if_false, if_true, not_false_eq_true]
          rfl
    · simp only [hb, if_false, if_true, Option.bind_some, not_false_eq_true, true_or, J25]
  · simp only [ha, if_false, if_true, Option.bind_some, not_false_eq_true, true_or, J25]
theorem m_whyNot {J : zI} {ns nj : Nat} {cs ea eb tt : Nat → Nat} (g1 : wfG ns nj cs ea eb tt) (h : gM (J 1) ns nj cs ea eb tt) (a b t : Int32) : fm_whyNot J a b t = some (if jerr ns nj ea eb a b t = 0 then 0 else -1000000 - nI (jerr ns nj ea eb a b t)) := by
  have m1 := h.1
  have m2 := h.2.1
  have hns := g1.1
  have hnj := g1.2.1
  have q1 : (-1000000 : Int32) - nI 1 = -1000001 := by decide
  have q3 : (-1000000 : Int32) - nI 3 = -1000003 := by decide
  have q4 : (-1000000 : Int32) - nI 4 = -1000004 := by decide
  unfold fm_whyNot jerr
  rw [m_isEdge m1 hns]
  by_cases ha : ∃ k, k < 4 * ns ∧ a = nI k
  · simp only [ha, if_true, Option.bind_some, z10, if_false, not_true, false_or]
    rw [m_isEdge m1 hns]
    by_cases hb : ∃ k, k < 4 * ns ∧ b = nI k
    · simp only [hb, if_true, Option.bind_some, z10, if_false, not_true, false_or]
      by_cases hab : a = b
      · simp [hab, q1]
      · simp only [hab, if_false, false_or]
        rw [mwi]
        simp only [Option.bind_some]
        by_cases ht : 0 ≤ t ∧ t ≤ 1
        · simp only [ht, and_self, if_true, z10, if_false, not_true]
          obtain ⟨x, hx, rfl⟩ := ha
          obtain ⟨y, hy, rfl⟩ := hb
          rw [m_joinAt g1 h (by omega), m_joinAt g1 h (by omega)]
          simp (disch := omega) only [zl_cl, Option.bind_some, zcl1, m2]
          cases e1 : jn ea eb nj x with
          | some j1 =>
            have e0 : (0 : Int32) ≤ nI j1 := nI_pos' (by have := (jn_some e1).1; omega)
            simp [jv, e0, q3]
          | none =>
            have e9 : ¬ (0 : Int32) ≤ -1 := by decide
            cases e2 : jn ea eb nj y with
            | some j2 =>
              have e0 : ¬ nI j2 < (0 : Int32) := nI_pos (by have := (jn_some e2).1; omega)
              simp [jv, e0, e9, q3]
            | none =>
              simp only [jv, e9, zm1, zl_m1lt, if_true, ne_eq, not_true, or_self, if_false]
              by_cases h16 : nj = 16
              · subst h16
                simp [q4, show nI 16 = 16 from rfl]
              · have : ¬ nI nj = 16 := fun e => h16 ((nI_eq (b := 16) (by omega) (by omega)).mp e)
                simp [h16, this]
        · simp only [ht, if_false, if_true, not_false_eq_true]
          simp [q1]
    · simp only [hb, if_false, if_true, Option.bind_some, not_false_eq_true, true_or]
      simp [q1]
  · simp only [ha, if_false, if_true, Option.bind_some, not_false_eq_true, true_or]
    simp [q1]
theorem jn_new {ea eb : Nat → Nat} {n x y e : Nat} : jn (vup ea n x) (vup eb n y) (n + 1) e = if x = e ∨ y = e then some n else jn ea eb n e := by
  rw [jn, vup_s, vup_s, jn_cg (fun j hj => ⟨vup_n (by omega), vup_n (by omega)⟩)]
/-- a join: refused by both alike, or made by both -/
theorem sim_try {I J : zI} (h : rR I J) (a b t : Int32) : (∃ k : Nat, 1 ≤ k ∧ k ≤ 6 ∧ fc_Ground_joinError I a b t = some (nI k) ∧ fm_whyNot J a b t = some (-1000000 - nI k)) ∨ (fc_Ground_joinError I a b t = some 0 ∧ fm_whyNot J a b t = some 0 ∧ ∃ (r : Int32) (I' J' : zI), fc_Ground_addJoin I a b t = some (r, I') ∧ fm_joined J a b t = some (r, J') ∧ rR I' J' ∧ (∀ c, c = 95 ∨ 97 ≤ c ∧ c ≤ 100 → I' c = I c) ∧ (∀ c, c = 13 ∨ c = 14 → J' c = J c)) := by
  obtain ⟨⟨⟨ns, nj, cs, ea, eb, tt, nw, kd, bg, sp, mk, eg, np, pl, hr, nt, ly, wo, al, dm, nf, fw, fo, hG, hW, hF, hD⟩, hT, hP⟩, hX⟩ := id h
  obtain ⟨g1, g2, g3⟩ := id hG
  obtain ⟨c1, c2, c3, c4, c5⟩ := id g2
  obtain ⟨m1, m2, m3, m4⟩ := id g3
  have hns := g1.1
  have hnj := g1.2.1
  rw [c_joinError g1 g2, m_whyNot g1 g3]
  by_cases he : jerr ns nj ea eb a b t = 0
  · refine Or.inr ⟨by rw [he]; rfl, by rw [if_pos he], ?_⟩
    unfold jerr at he
    by_cases e1 : ¬ (∃ k, k < 4 * ns ∧ a = nI k) ∨ ¬ (∃ k, k < 4 * ns ∧ b = nI k) ∨ a = b ∨ ¬ (0 ≤ t ∧ t ≤ 1)
    · rw [if_pos e1] at he; omega
    rw [if_neg e1] at he
    by_cases e2 : jn ea eb nj a.toNatClampNeg ≠ none ∨ jn ea eb nj b.toNatClampNeg ≠ none
    · rw [if_pos e2] at he; omega
    rw [if_neg e2] at he
    by_cases e3 : nj = 16
    · rw [if_pos e3] at he; omega
    simp only [not_or, Classical.not_not] at e1 e2
    obtain ⟨⟨x, hx, rfl⟩, ⟨y, hy, rfl⟩, hxy, ht⟩ := e1
    obtain ⟨s, hs1, hs2, rfl⟩ := zl_nat (a := 0) (b := 1) ht (by omega) (by omega)
    simp (disch := omega) only [zl_cl, ne_eq, Classical.not_not] at e2
    have hxy2 : x ≠ y := fun e => hxy (by rw [e])
    have n1 := jn_none.mp e2.1
    have n2 := jn_none.mp e2.2
    have r1 : fc_Ground_addJoin I (nI x) (nI y) (nI s) = some (nI nj, zup (zup (zup (zup (zup (zup I 4 (2 * nj) (nI x)) 4 (2 * nj + 1) (nI y)) 5 nj (nI s)) 6 x (nI nj)) 6 y (nI nj)) 2 2 (nI (nj + 1))) := by
      unfold fc_Ground_addJoin
      simp (disch := omega) only [k_0, k_1, k_2, k_3, k_4, k_5, k_6, k_7, k_8, k_9, k_10, k_11, k_12, k_13, k_14, k_15, k_16, k_17, k_18, k_19, k_20, k_21, k_22, k_23, k_24, k_25, k_26, k_27, k_28, k_30, k_31, k_32, k_33, k_37, k_38, k_40, k_41, k_42, k_43, k_45, k_47, k_48, k_50, k_57, k_60, k_61, k_62, k_63, k_66, k_70, k_71, k_99, k_124, k_128, k_186, k_198, k_216, k_240, k_255, k_256, k_300, k_324, k_448, k_999, k_9999, k_10000, k_12345, k_20000, k_20001, k_20002, k_20003, k_20004, k_20005, k_20006, k_20007, k_20008, k_20009, k_20010, k_999999, k_100000000, k_m1, zl_add, zl_mul, zl_sub, zl_div, zl_mod, zl_lt, zl_le, zl_eq, zl_cl, zl_b, zm1_eq, zm1_eq2, zm1_lt, zm1_nlt, zm1_le, zm1_nle, z_guard, Option.bind_some, if_true, if_false, decide_true, c2, show 2 * nj < 32 by omega, show 2 * nj + 1 < 32 by omega, show nj < 16 by omega, show x < 32 by omega, show y < 32 by omega]
    have r2 : fm_joined J (nI x) (nI y) (nI s) = some (nI nj, zup (zup (zup (zup J 1 (18 + 3 * nj) (nI x)) 1 (18 + 3 * nj + 1) (nI y)) 1 (18 + 3 * nj + 2) (nI s)) 1 1 (nI (nj + 1))) := by
      unfold fm_joined
      simp (disch := omega) only [k_0, k_1, k_2, k_3, k_4, k_5, k_6, k_7, k_8, k_9, k_10, k_11, k_12, k_13, k_14, k_15, k_16, k_17, k_18, k_19, k_20, k_21, k_22, k_23, k_24, k_25, k_26, k_27, k_28, k_30, k_31, k_32, k_33, k_37, k_38, k_40, k_41, k_42, k_43, k_45, k_47, k_48, k_50, k_57, k_60, k_61, k_62, k_63, k_66, k_70, k_71, k_99, k_124, k_128, k_186, k_198, k_216, k_240, k_255, k_256, k_300, k_324, k_448, k_999, k_9999, k_10000, k_12345, k_20000, k_20001, k_20002, k_20003, k_20004, k_20005, k_20006, k_20007, k_20008, k_20009, k_20010, k_999999, k_100000000, k_m1, zl_add, zl_mul, zl_sub, zl_div, zl_mod, zl_lt, zl_le, zl_eq, zl_cl, zl_b, zm1_eq, zm1_eq2, zm1_lt, zm1_nlt, zm1_le, zm1_nle, z_guard, Option.bind_some, if_true, if_false, decide_true, zcl1, m2, show 18 + 3 * nj < 448 by omega, show 18 + 3 * nj + 1 < 448 by omega, show 18 + 3 * nj + 2 < 448 by omega, Nat.add_zero]
      have e9 : zup (zup (zup J 1 (18 + 3 * nj) (nI x)) 1 (18 + 3 * nj + 1) (nI y)) 1 (18 + 3 * nj + 2) (nI s) 1 1 = nI nj := by (unfold zup; repeat (first | rw [if_neg (by omega)] | rw [if_pos (by omega)])); exact m2
      rw [e9, zl_add]
    refine ⟨_, _, _, r1, r2, rR_L hT hP hX ⟨ns, nj + 1, cs, vup ea nj x, vup eb nj y, vup tt nj s, nw, kd, bg, sp, mk, eg, np, pl, hr, nt, ly, wo, al, dm, nf, fw, fo, ⟨⟨hns, by omega, g1.2.2.1, fun j hj => ?_, fun j i hj hi => ?_⟩, ⟨by (unfold zup; repeat (first | rw [if_neg (by omega)] | rw [if_pos (by omega)])); exact c1, by (unfold zup; repeat (first | rw [if_neg (by omega)] | rw [if_pos (by omega)])), fun i hi => ?_, fun j hj => ?_, fun e he => ?_⟩, ⟨by (unfold zup; repeat (first | rw [if_neg (by omega)] | rw [if_pos (by omega)])); exact m1, by (unfold zup; repeat (first | rw [if_neg (by omega)] | rw [if_pos (by omega)])), fun i hi => ?_, fun j hj => ?_⟩⟩, keepW hW (by omega) (by intros; unfold zup; repeat rw [if_neg (by omega)]) (by intros; unfold zup; repeat rw [if_neg (by omega)]), keepF hF (by omega) (by intros; unfold zup; repeat rw [if_neg (by omega)]) (by intros; unfold zup; repeat rw [if_neg (by omega)]), keepD hD (by omega) (Nat.le_refl _) (by intros; unfold zup; repeat rw [if_neg (by omega)]) (by intros; unfold zup; repeat rw [if_neg (by omega)])⟩ (by intros c k hc; unfold zxrel at hc; unfold zup; repeat rw [if_neg (by omega)]) (by intros; unfold zup; repeat rw [if_neg (by omega)]) (by intros c k hc; unfold mxrel at hc; unfold zup; repeat rw [if_neg (by omega)]), fun c hc => ?_, fun c hc => ?_⟩
    · by_cases hj2 : j = nj
      · subst hj2; rw [vup_s, vup_s, vup_s]; omega
      · rw [vup_n hj2, vup_n hj2, vup_n hj2]; exact g1.2.2.2.1 j (by omega)
    · have hi2 : i ≠ nj := by omega
      rw [vup_n hi2, vup_n hi2]
      by_cases hj2 : j = nj
      · subst hj2
        rw [vup_s, vup_s]
        have := n1 i hi
        have := n2 i hi
        omega
      · rw [vup_n hj2, vup_n hj2]; exact g1.2.2.2.2 j i (by omega) hi
    · (unfold zup; repeat (first | rw [if_neg (by omega)] | rw [if_pos (by omega)])); exact c3 i hi
    · by_cases hj2 : j = nj
      · subst hj2
        rw [vup_s, vup_s, vup_s]
        exact ⟨by (unfold zup; repeat (first | rw [if_neg (by omega)] | rw [if_pos (by omega)])), by (unfold zup; repeat (first | rw [if_neg (by omega)] | rw [if_pos (by omega)])), by (unfold zup; repeat (first | rw [if_neg (by omega)] | rw [if_pos (by omega)]))⟩
      · rw [vup_n hj2, vup_n hj2, vup_n hj2]
        obtain ⟨d1, d2, d3⟩ := c4 j (by omega)
        exact ⟨by (unfold zup; repeat (first | rw [if_neg (by omega)] | rw [if_pos (by omega)])); exact d1, by (unfold zup; repeat (first | rw [if_neg (by omega)] | rw [if_pos (by omega)])); exact d2, by (unfold zup; repeat (first | rw [if_neg (by omega)] | rw [if_pos (by omega)])); exact d3⟩
    · rw [jn_new]
      by_cases ex : x = e
      · subst ex
        rw [if_pos (Or.inl rfl)]
        (unfold zup; repeat (first | rw [if_neg (by omega)] | rw [if_pos (by omega)])); rfl
      · by_cases ey : y = e
        · subst ey
          rw [if_pos (Or.inr rfl)]
          (unfold zup; repeat (first | rw [if_neg (by omega)] | rw [if_pos (by omega)])); rfl
        · rw [if_neg (by omega)]
          (unfold zup; repeat (first | rw [if_neg (by omega)] | rw [if_pos (by omega)])); exact c5 e he
    · (unfold zup; repeat (first | rw [if_neg (by omega)] | rw [if_pos (by omega)])); exact m3 i hi
    · by_cases hj2 : j = nj
      · subst hj2
        rw [vup_s, vup_s, vup_s]
        exact ⟨by (unfold zup; repeat (first | rw [if_neg (by omega)] | rw [if_pos (by omega)])), by (unfold zup; repeat (first | rw [if_neg (by omega)] | rw [if_pos (by omega)])), by (unfold zup; repeat (first | rw [if_neg (by omega)] | rw [if_pos (by omega)]))⟩
      · rw [vup_n hj2, vup_n hj2, vup_n hj2]
        obtain ⟨d1, d2, d3⟩ := m4 j (by omega)
        exact ⟨by (unfold zup; repeat (first | rw [if_neg (by omega)] | rw [if_pos (by omega)])); exact d1, by (unfold zup; repeat (first | rw [if_neg (by omega)] | rw [if_pos (by omega)])); exact d2, by (unfold zup; repeat (first | rw [if_neg (by omega)] | rw [if_pos (by omega)])); exact d3⟩
    · funext k; (unfold zup; repeat (first | rw [if_neg (by omega)] | rw [if_pos (by omega)]))
    · funext k; (unfold zup; repeat (first | rw [if_neg (by omega)] | rw [if_pos (by omega)]))
  · refine Or.inl ⟨jerr ns nj ea eb a b t, ?_, ?_, rfl, by rw [if_neg he]⟩
    · omega
    · unfold jerr
      split
      · omega
      · split
        · omega
        · split <;> omega
theorem zl_low {k : Nat} (h1 : 1 ≤ k) (h2 : k ≤ 6) : ¬ nI k = 0 ∧ ¬ (-1000000 - nI k : Int32) = 0 := by
  rcases (show k = 1 ∨ k = 2 ∨ k = 3 ∨ k = 4 ∨ k = 5 ∨ k = 6 by omega) with rfl | rfl | rfl | rfl | rfl | rfl <;> decide
theorem sim_join {I J : zI} (h : rR I J) (a b t : Int32) : zSim (fc_T_join I a b t) (fm_join J a b t) := by
  unfold fc_T_join fm_join
  rcases sim_try h a b t with ⟨k, h1, h2, e1, e2⟩ | ⟨e1, e2, r, I', J', e3, e4, e5, -⟩
  · obtain ⟨n1, n2⟩ := zl_low h1 h2
    have hs := zsim_err (e := nI k) (f := -1000000 - nI k) h h1 h2 rfl rfl
    generalize (-1000000 - nI k : Int32) = q at e2 n2 hs
    rw [e1, e2, Option.bind_some, Option.bind_some, if_neg n1, if_neg n2]
    exact zSim_e hs
  · rw [e1, e2, Option.bind_some, Option.bind_some, if_pos rfl, if_pos rfl, e3, e4]
    exact zSim_i rfl rfl e5
theorem zpc_mono {a b : Nat} (h : ∀ i, a.testBit i = true → b.testBit i = true) : zpc a ≤ zpc b := by
  unfold zpc
  rw [← List.countP_eq_length_filter, ← List.countP_eq_length_filter]
  exact List.countP_mono_left (fun i _ hi => h i hi)
theorem zand_top {dm k : Nat} (hk : k < 16) (h : dm < 2 ^ (k + 1)) : nI dm &&& (((1 : Int32) <<< (nI k &&& 31)) ^^^ (-1)) = nI (dm % 2 ^ k) := by
  have e1 : ∀ k, k < 16 → ((1 : Int32) <<< (nI k &&& 31)) ^^^ (-1) = nI (2 ^ 32 - (2 ^ k + 1)) := by decide +kernel
  rw [e1 k hk]
  have e2 : ∀ a b : Nat, nI a &&& nI b = nI (a &&& b) := fun a b => by
    apply Int32.toBitVec_inj.mp
    show BitVec.ofNat 32 a &&& BitVec.ofNat 32 b = BitVec.ofNat 32 (a &&& b)
    exact BitVec.ofNat_and.symm
  rw [e2]
  congr 1
  apply Nat.eq_of_testBit_eq
  intro i
  rw [Nat.testBit_and, Nat.testBit_two_pow_sub_succ (Nat.pow_lt_pow_right (by omega) (by omega)), Nat.testBit_mod_two_pow, Nat.testBit_two_pow]
  by_cases h1 : i < k
  · have : ¬ k = i := by omega
    simp [h1, this, show i < 32 by omega]
  · by_cases h2 : i = k
    · subst h2; simp
    · have : dm.testBit i = false := Nat.testBit_lt_two_pow (Nat.lt_of_lt_of_le h (Nat.pow_le_pow_right (by omega) (by omega)))
      simp [this]
theorem sim_part {I J : zI} (h : rR I J) : zSim (fc_T_part I) (fm_part J) := by
  obtain ⟨⟨⟨ns, nj, cs, ea, eb, tt, nw, kd, bg, sp, mk, eg, np, pl, hr, nt, ly, wo, al, dm, nf, fw, fo, hG, hW, hF, hD⟩, hT, hP⟩, hX⟩ := id h
  obtain ⟨g1, g2, g3⟩ := id hG
  obtain ⟨c1, c2, c3, c4, c5⟩ := id g2
  obtain ⟨m1, m2, m3, m4⟩ := id g3
  have hns := g1.1
  have hnj := g1.2.1
  unfold fc_T_part fm_part
  rw [zcl1, m2, c2]
  rcases Nat.eq_zero_or_pos nj with h0 | h0
  · subst h0
    simp only [show nI 0 = 0 from rfl, if_true]
    exact zSim_e (zsim_err h (k := 3) (by omega) (by omega) rfl (by decide))
  · have e0 : ¬ nI nj = 0 := fun e => by have := (nI_eq (b := 0) (by omega) (by omega)).mp e; omega
    obtain ⟨k, rfl⟩ : ∃ k, nj = k + 1 := ⟨nj - 1, by omega⟩
    obtain ⟨a1, a2, a3⟩ := c4 k (by omega)
    obtain ⟨b1, b2⟩ := wfG_32 g1 k (by omega)
    obtain ⟨d1, d2, d3⟩ := hD
    have r1 : fc_Ground_takeOffLatest I = some (zup (zup (zup I 2 2 (nI k)) 6 (ea k) (-1)) 6 (eb k) (-1)) := by
      unfold fc_Ground_takeOffLatest
      rw [c2]
      have q1 : nI (k + 1) - 1 = nI k := nI_pred k
      rw [if_neg e0, q1]
      have q2 : (2 : Int32) * nI k = nI (2 * k) := pk_mul 2 k
      have q3 : nI (2 * k) + 1 = nI (2 * k + 1) := nI_1 _
      rw [q2, q3]
      simp (disch := omega) only [zl_cl, a1, a2, zl_b, z_guard, show 2 * k < 32 by omega, show 2 * k + 1 < 32 by omega, b1, b2, decide_true, if_true]
    have q1 : nI (k + 1) - 1 = nI k := nI_pred k
    simp only [e0, if_false, r1, Option.bind_some, q1]
    have hdm := d1.1
    have t1 := zand_top (dm := dm) (k := k) (by omega) hdm
    have u1 : zup (zup (zup I 2 2 (nI k)) 6 (ea k) (-1)) 6 (eb k) (-1) 2 2 = nI k := by (unfold zup; repeat (first | rw [if_neg (by omega)] | rw [if_pos (by omega)]))
    have u2 : zup (zup (zup I 2 2 (nI k)) 6 (ea k) (-1)) 6 (eb k) (-1) 29 0 = nI dm := by (unfold zup; repeat (first | rw [if_neg (by omega)] | rw [if_pos (by omega)])); exact d2.1
    have u3 : zup J 1 1 (nI k) 1 9 = nI dm := by (unfold zup; repeat (first | rw [if_neg (by omega)] | rw [if_pos (by omega)])); exact d3.1
    simp only [zcl1, show (9 : Int32).toNatClampNeg = 9 from by decide, u1, u2, u3, t1]
    refine zSim_i (v := nI k) (I := zup (zup (zup (zup I 2 2 (nI k)) 6 (ea k) (-1)) 6 (eb k) (-1)) 29 0 (nI (dm % 2 ^ k))) (J := zup (zup J 1 1 (nI k)) 1 9 (nI (dm % 2 ^ k))) ?_ ?_ (rR_L hT hP hX ⟨ns, k, cs, ea, eb, tt, nw, kd, bg, sp, mk, eg, np, pl, hr, nt, ly, wo, al, dm % 2 ^ k, nf, fw, fo, ⟨⟨hns, by omega, g1.2.2.1, fun j hj => g1.2.2.2.1 j (by omega), fun j i hj hi => g1.2.2.2.2 j i (by omega) hi⟩, ⟨by (unfold zup; repeat (first | rw [if_neg (by omega)] | rw [if_pos (by omega)])); exact c1, by (unfold zup; repeat (first | rw [if_neg (by omega)] | rw [if_pos (by omega)])), fun i hi => ?_, fun j hj => ?_, fun e he => ?_⟩, ⟨by (unfold zup; repeat (first | rw [if_neg (by omega)] | rw [if_pos (by omega)])); exact m1, by (unfold zup; repeat (first | rw [if_neg (by omega)] | rw [if_pos (by omega)])), fun i hi => ?_, fun j hj => ?_⟩⟩, keepW hW (by omega) (by intros; unfold zup; repeat rw [if_neg (by omega)]) (by intros; unfold zup; repeat rw [if_neg (by omega)]), keepF hF (by omega) (by intros; unfold zup; repeat rw [if_neg (by omega)]) (by intros; unfold zup; repeat rw [if_neg (by omega)]), ⟨⟨Nat.mod_lt _ (Nat.two_pow_pos k), ?_, d1.2.2⟩, ⟨by (unfold zup; repeat (first | rw [if_neg (by omega)] | rw [if_pos (by omega)])), by (unfold zup; repeat (first | rw [if_neg (by omega)] | rw [if_pos (by omega)])); exact d2.2.1, fun f hf => by (unfold zup; repeat (first | rw [if_neg (by omega)] | rw [if_pos (by omega)])); exact d2.2.2 f hf⟩, ⟨by (unfold zup; repeat (first | rw [if_neg (by omega)] | rw [if_pos (by omega)])), by (unfold zup; repeat (first | rw [if_neg (by omega)] | rw [if_pos (by omega)])); exact d3.2.1, fun f hf => by have := d1.2.2.1; (unfold zup; repeat (first | rw [if_neg (by omega)] | rw [if_pos (by omega)])); exact d3.2.2 f hf⟩⟩⟩ (by intros c k hc; unfold zxrel at hc; unfold zup; repeat rw [if_neg (by omega)]) (by intros; unfold zup; repeat rw [if_neg (by omega)]) (by intros c k hc; unfold mxrel at hc; unfold zup; repeat rw [if_neg (by omega)]))
    · rfl
    · have u4 : zup (zup J 1 1 (nI k)) 1 9 (nI (dm % 2 ^ k)) 1 1 = nI k := by (unfold zup; repeat (first | rw [if_neg (by omega)] | rw [if_pos (by omega)]))
      rw [u4]
    · (unfold zup; repeat (first | rw [if_neg (by omega)] | rw [if_pos (by omega)])); exact c3 i hi
    · (unfold zup; repeat (first | rw [if_neg (by omega)] | rw [if_pos (by omega)])); exact c4 j (by omega)
    · have w1 := g1.2.2.2.1 k (by omega)
      have w2 := g1.2.2.2.2 k
      have hc := c5 e he
      rw [jn] at hc
      by_cases e1 : e = ea k ∨ e = eb k
      · have e2 : jn ea eb k e = none := jn_none.mpr fun j hj => by
          have := w2 j (by omega) hj
          omega
        rw [e2]
        rcases e1 with rfl | rfl
        · by_cases e3 : ea k = eb k
          · omega
          · unfold zup
            rw [if_neg (by omega), if_neg (by omega), if_pos (by omega)]; rfl
        · unfold zup
          rw [if_neg (by omega), if_pos (by omega)]; rfl
      · rw [if_neg (by omega)] at hc
        unfold zup
        rw [if_neg (by omega), if_neg (by omega), if_neg (by omega), if_neg (by omega)]
        exact hc
    · (unfold zup; repeat (first | rw [if_neg (by omega)] | rw [if_pos (by omega)])); exact m3 i hi
    · (unfold zup; repeat (first | rw [if_neg (by omega)] | rw [if_pos (by omega)])); exact m4 j (by omega)
    · refine Nat.le_trans (zpc_mono fun i hi => ?_) d1.2.1
      rw [Nat.testBit_mod_two_pow] at hi
      simp only [Bool.and_eq_true] at hi
      exact hi.2
