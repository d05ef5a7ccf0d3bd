theorem m_walkOf {J : zI} {w f : Nat} (hw : w < 10) (hf : f < 12) : fm_walkOf J (nI w) (nI f) = some (J 1 (66 + 12 * w + f)) := by
  unfold fm_walkOf
  simp (disch := omega) only [k_0, k_1, k_2, k_3, k_4, k_5, k_6, k_7, k_8, k_9, k_10, k_11, k_12, k_13, k_14, k_15, k_16, k_17, k_18, k_19, k_20, k_21, k_22, k_23, k_24, k_25, k_26, k_27, k_28, k_30, k_31, k_32, k_33, k_37, k_38, k_40, k_41, k_42, k_43, k_45, k_47, k_48, k_50, k_57, k_60, k_61, k_62, k_63, k_66, k_70, k_71, k_99, k_124, k_128, k_186, k_198, k_216, k_240, k_255, k_256, k_300, k_324, k_448, k_999, k_9999, k_10000, k_12345, k_20000, k_20001, k_20002, k_20003, k_20004, k_20005, k_20006, k_20007, k_20008, k_20009, k_20010, k_999999, k_100000000, k_m1, zl_add, zl_mul, zl_sub, zl_div, zl_mod, zl_lt, zl_le, zl_eq, zl_cl, zl_b, zm1_eq, zm1_eq2, zm1_lt, zm1_nlt, zm1_le, zm1_nle, z_guard, Option.bind_some, if_true, if_false, decide_true, show 66 + 12 * w + f < 448 by omega]
theorem m_goes_L {J : zI} {ns nw : Nat} {T : Nat → Nat → Option (Nat × Nat)} {kd bg sp : Nat → Nat} {mk : Nat → Int32} {eg : Nat → Nat → Nat} (hT : wT ns T) (hM : mT J ns T) (g1 : wfW ns nw kd bg sp mk eg) (g2 : wM (J 1) nw kd bg sp mk eg) {w p : Nat} (hw : w < nw) (hp : p < 2 * ns) : ∀ (m k fuel q : Nat) (V : zI), k + m = sp w → m < fuel → zpl T (eg w) p k = some q → V 0 17 = nI q → V 0 18 = nI (zhs T (eg w) p k) → V 0 19 = nI (zts T (eg w) p k) → V 0 20 = zsn T (eg w) p k → V 0 21 = nI k → (∀ c j, c ≠ 7 → c ≠ 8 → ¬ (c = 0 ∧ 14 ≤ j ∧ j ≤ 21) → V c j = J c j) → ∃ V', fm_goes_L41 fuel (nI w) V = some (if zpl T (eg w) p (sp w) = none then 0 else 1, V') ∧ V' 0 17 = nI (zpv T (eg w) p (zgk T (eg w) p (sp w))) ∧ V' 0 18 = nI (zhs T (eg w) p (zgk T (eg w) p (sp w))) ∧ V' 0 19 = nI (zts T (eg w) p (zgk T (eg w) p (sp w))) ∧ V' 0 20 = zsn T (eg w) p (zgk T (eg w) p (sp w)) ∧ V' 0 21 = nI (zgk T (eg w) p (sp w)) ∧ ∀ c j, c ≠ 7 → c ≠ 8 → ¬ (c = 0 ∧ 14 ≤ j ∧ j ≤ 21) → V' c j = J c j := by
  intro m
  have hns := hT.1
  have hnw := g1.1
  obtain ⟨a1, a2, a3, a4, a5⟩ := g1.2 w hw
  obtain ⟨b1, b2, b3, b4, b5⟩ := g2.2 w hw
  induction m with
  | zero =>
    intro k fuel q V hk hf h1 h2 h3 h4 h5 h6 h7
    obtain ⟨f, rfl⟩ : ∃ f, fuel = f + 1 := ⟨fuel - 1, by omega⟩
    have hkn : k = sp w := by omega
    have hv : zpv T (eg w) p k = q := by unfold zpv; rw [h1]; rfl
    have e2 : V 1 (66 + 12 * w + 2) = nI (sp w) := by rw [h7 1 _ (by omega) (by omega) (by omega)]; exact b3
    rw [fm_goes_L41]
    simp (disch := omega) only [k_0, k_1, k_2, k_3, k_4, k_5, k_6, k_7, k_8, k_9, k_10, k_11, k_12, k_13, k_14, k_15, k_16, k_17, k_18, k_19, k_20, k_21, k_22, k_23, k_24, k_25, k_26, k_27, k_28, k_30, k_31, k_32, k_33, k_37, k_38, k_40, k_41, k_42, k_43, k_45, k_47, k_48, k_50, k_57, k_60, k_61, k_62, k_63, k_66, k_70, k_71, k_99, k_124, k_128, k_186, k_198, k_216, k_240, k_255, k_256, k_300, k_324, k_448, k_999, k_9999, k_10000, k_12345, k_20000, k_20001, k_20002, k_20003, k_20004, k_20005, k_20006, k_20007, k_20008, k_20009, k_20010, k_999999, k_100000000, k_m1, zl_add, zl_mul, zl_sub, zl_div, zl_mod, zl_lt, zl_le, zl_eq, zl_cl, zl_b, zm1_eq, zm1_eq2, zm1_lt, zm1_nlt, zm1_le, zm1_nle, z_guard, Option.bind_some, if_true, if_false, decide_true, m_walkOf, e2, h6, hkn, Nat.le_refl]
    rw [← hkn, if_neg (by rw [h1]; exact fun e => by cases e), zgk_some h1, hv]
    exact ⟨V, rfl, h2, h3, h4, h5, h6, h7⟩
  | succ m ih =>
    intro k fuel q V hk hf h1 h2 h3 h4 h5 h6 h7
    obtain ⟨f, rfl⟩ : ∃ f, fuel = f + 1 := ⟨fuel - 1, by omega⟩
    have hv : zpv T (eg w) p k = q := by unfold zpv; rw [h1]; rfl
    have e1 := a5 k (by omega)
    have e2 : V 1 (66 + 12 * w + 2) = nI (sp w) := by rw [h7 1 _ (by omega) (by omega) (by omega)]; exact b3
    have e3 : V 1 (66 + 12 * w + (4 + k)) = nI (eg w k) := by rw [show 66 + 12 * w + (4 + k) = 66 + 12 * w + 4 + k by omega, h7 1 _ (by omega) (by omega) (by omega)]; exact b5 k (by omega)
    have hq := zpl_lt hT (fun k hk => a5 k hk) hp (k := k) (by omega) h1
    obtain ⟨V2, r1, r2, r3, r4⟩ := hM.2 V (fun j hj => h7 1 j (by omega) (by omega) (by omega)) q (eg w k) hq e1
    have hnx : zpl T (eg w) p (k + 1) = (T q (eg w k)).map (·.1) := by rw [zpl, h1]; rfl
    rw [fm_goes_L41]
    simp (disch := omega) only [k_0, k_1, k_2, k_3, k_4, k_5, k_6, k_7, k_8, k_9, k_10, k_11, k_12, k_13, k_14, k_15, k_16, k_17, k_18, k_19, k_20, k_21, k_22, k_23, k_24, k_25, k_26, k_27, k_28, k_30, k_31, k_32, k_33, k_37, k_38, k_40, k_41, k_42, k_43, k_45, k_47, k_48, k_50, k_57, k_60, k_61, k_62, k_63, k_66, k_70, k_71, k_99, k_124, k_128, k_186, k_198, k_216, k_240, k_255, k_256, k_300, k_324, k_448, k_999, k_9999, k_10000, k_12345, k_20000, k_20001, k_20002, k_20003, k_20004, k_20005, k_20006, k_20007, k_20008, k_20009, k_20010, k_999999, k_100000000, k_m1, zl_add, zl_mul, zl_sub, zl_div, zl_mod, zl_lt, zl_le, zl_eq, zl_cl, zl_b, zm1_eq, zm1_eq2, zm1_lt, zm1_nlt, zm1_le, zm1_nle, z_guard, Option.bind_some, if_true, if_false, decide_true, m_walkOf, e2, h6, e3, h2, r1, show ¬ sp w ≤ k by omega]
    cases ht : T q (eg w k) with
    | none =>
      rw [ht] at hnx
      have hz := zpl_none hnx m
      rw [show k + 1 + m = sp w by omega] at hz
      have hg := zgk_none hnx (m + 1)
      rw [show k + (m + 1) = sp w by omega, zgk_some h1] at hg
      have r5 := r3 ht
      subst r5
      simp (disch := omega) only [k_0, k_1, k_2, k_3, k_4, k_5, k_6, k_7, k_8, k_9, k_10, k_11, k_12, k_13, k_14, k_15, k_16, k_17, k_18, k_19, k_20, k_21, k_22, k_23, k_24, k_25, k_26, k_27, k_28, k_30, k_31, k_32, k_33, k_37, k_38, k_40, k_41, k_42, k_43, k_45, k_47, k_48, k_50, k_57, k_60, k_61, k_62, k_63, k_66, k_70, k_71, k_99, k_124, k_128, k_186, k_198, k_216, k_240, k_255, k_256, k_300, k_324, k_448, k_999, k_9999, k_10000, k_12345, k_20000, k_20001, k_20002, k_20003, k_20004, k_20005, k_20006, k_20007, k_20008, k_20009, k_20010, k_999999, k_100000000, k_m1, zl_add, zl_mul, zl_sub, zl_div, zl_mod, zl_lt, zl_le, zl_eq, zl_cl, zl_b, zm1_eq, zm1_eq2, zm1_lt, zm1_nlt, zm1_le, zm1_nle, z_guard, Option.bind_some, if_true, if_false, decide_true, m_walkOf, e2, h6, show ¬ k = sp w by omega]
      rw [if_pos hz, hg, hv]
      exact ⟨V2, rfl, h2, h3, h4, h5, h6, h7⟩
    | some r =>
      rw [ht] at hnx
      obtain ⟨hr, hr1, hr2⟩ := hT.2 q (eg w k) r hq e1 ht
      obtain ⟨s1, s2⟩ := r2 r ht
      have hv1 : zpv T (eg w) p (k + 1) = r.1 := by unfold zpv; rw [hnx]; rfl
      have u2 : V2 0 17 = nI q := by rw [r4 0 17 (by omega) (by omega) (by omega)]; exact h2
      have u3 : V2 0 18 = nI (zhs T (eg w) p k) := by rw [r4 0 18 (by omega) (by omega) (by omega)]; exact h3
      have u4 : V2 0 19 = nI (zts T (eg w) p k) := by rw [r4 0 19 (by omega) (by omega) (by omega)]; exact h4
      have u5 : V2 0 20 = zsn T (eg w) p k := by rw [r4 0 20 (by omega) (by omega) (by omega)]; exact h5
      have u6 : V2 0 21 = nI k := by rw [r4 0 21 (by omega) (by omega) (by omega)]; exact h6
      have n1 : ¬ nI 1 = nI 0 := by decide
      simp only [← k_1, ← k_0, z10, if_false]
      rw [s1, s2, u2, u3, u4, u5, u6]
      obtain ⟨V', a⟩ := ih (k + 1) f r.1 (zup (zup (zup (zup (zup V2 0 19 (nI (zts T (eg w) p k) + ((nI r.1 ^^^ nI q) &&& 1))) 0 17 (nI r.1)) 0 18 (nI (zhs T (eg w) p k) + nI r.2)) 0 20 (zsn T (eg w) p k ||| (1 : Int32) <<< ((nI r.1 / 2) &&& 31))) 0 21 (nI k + 1)) (by omega) (by omega) hnx (by (unfold zup; repeat (first | rw [if_neg (by omega)] | rw [if_pos (by omega)]))) (by (unfold zup; repeat (first | rw [if_neg (by omega)] | rw [if_pos (by omega)])); rw [zl_add, zhs, hv, ht]) (by (unfold zup; repeat (first | rw [if_neg (by omega)] | rw [if_pos (by omega)])); rw [k_1, zl_xor, zl_and, zl_add, zts, hv, hv1, Nat.xor_comm]) (by (unfold zup; repeat (first | rw [if_neg (by omega)] | rw [if_pos (by omega)])); rw [zsn, hv1, k_2, zl_div _ _ (by omega) (by omega) (by omega)]) (by (unfold zup; repeat (first | rw [if_neg (by omega)] | rw [if_pos (by omega)])); exact nI_1 k) (fun c j hc hc2 hc3 => by (unfold zup; repeat (first | rw [if_neg (by omega)] | rw [if_pos (by omega)])); rw [r4 c j hc hc2 (by omega)]; exact h7 c j hc hc2 hc3)
      exact ⟨V', a⟩
theorem m_goes {J : zI} {ns nw : Nat} {T : Nat → Nat → Option (Nat × Nat)} {kd bg sp : Nat → Nat} {mk : Nat → Int32} {eg : Nat → Nat → Nat} (hT : wT ns T) (hM : mT J ns T) (g1 : wfW ns nw kd bg sp mk eg) (g2 : wM (J 1) nw kd bg sp mk eg) {w h : Nat} (hw : w < nw) (hh : h < 2) : ∃ V', fm_goes J (nI w) (nI h) = some (if zpl T (eg w) (2 * bg w + h) (sp w) = none then 0 else 1, V') ∧ V' 0 17 = nI (zpv T (eg w) (2 * bg w + h) (zgk T (eg w) (2 * bg w + h) (sp w))) ∧ V' 0 18 = nI (zhs T (eg w) (2 * bg w + h) (zgk T (eg w) (2 * bg w + h) (sp w))) ∧ V' 0 19 = nI (zts T (eg w) (2 * bg w + h) (zgk T (eg w) (2 * bg w + h) (sp w))) ∧ V' 0 20 = zsn T (eg w) (2 * bg w + h) (zgk T (eg w) (2 * bg w + h) (sp w)) ∧ V' 0 21 = nI (zgk T (eg w) (2 * bg w + h) (sp w)) ∧ ∀ c j, c ≠ 7 → c ≠ 8 → ¬ (c = 0 ∧ 14 ≤ j ∧ j ≤ 21) → V' c j = J c j := by
  have hns := hT.1
  have hnw := g1.1
  obtain ⟨a1, a2, a3, a4, a5⟩ := g1.2 w hw
  obtain ⟨b1, b2, b3, b4, b5⟩ := g2.2 w hw
  unfold fm_goes
  rw [k_1, m_walkOf (by omega) (by omega), b2]
  simp only [Option.bind_some]
  have e1 : (2 : Int32) * nI (bg w) + nI h = nI (2 * bg w + h) := by rw [k_2, zl_mul, zl_add]
  have e2 : nI (2 * bg w + h) / 2 = nI ((2 * bg w + h) / 2) := by rw [k_2, zl_div _ _ (by omega) (by omega) (by omega)]
  rw [e1, e2]
  exact m_goes_L hT hM g1 g2 hw (p := 2 * bg w + h) (by omega) (sp w) 0 100 (2 * bg w + h) (zup (zup (zup (zup (zup J 0 17 (nI (2 * bg w + h))) 0 18 0) 0 19 0) 0 20 ((1 : Int32) <<< (nI ((2 * bg w + h) / 2) &&& 31))) 0 21 0) (by omega) (by omega) rfl (by (unfold zup; repeat (first | rw [if_neg (by omega)] | rw [if_pos (by omega)]))) (by (unfold zup; repeat (first | rw [if_neg (by omega)] | rw [if_pos (by omega)])); rfl) (by (unfold zup; repeat (first | rw [if_neg (by omega)] | rw [if_pos (by omega)])); rfl) (by (unfold zup; repeat (first | rw [if_neg (by omega)] | rw [if_pos (by omega)])); rfl) (by (unfold zup; repeat (first | rw [if_neg (by omega)] | rw [if_pos (by omega)])); rfl) (fun c j hc hc2 hc3 => by (unfold zup; repeat (first | rw [if_neg (by omega)] | rw [if_pos (by omega)])))
/-! what the class reads off the places -/
theorem c_whours {I : zI} {ns nw : Nat} {T : Nat → Nat → Option (Nat × Nat)} {kd bg sp : Nat → Nat} {mk : Nat → Int32} {eg : Nat → Nat → Nat} (hT : wT ns T) (hC : cT I ns T) (g1 : wfW ns nw kd bg sp mk eg) (g2 : wC I nw kd bg sp mk eg) {w p K : Nat} (hw : w < nw) (hp : p < 2 * ns) (hK : K ≤ sp w) (hz : (zpl T (eg w) p K).isSome) : ∀ (m k fuel : Nat) (V : zI), k + m = K → m < fuel → V 178 1 = nI K → (∀ i, i ≤ K → V 179 i = nI (zpv T (eg w) p i)) → (∀ c j, c ≠ 178 → c ≠ 179 → c ≠ 38 → c ≠ 39 → V c j = I c j) → ∃ V', fc_Walker_hours_L5 fuel (nI w) (nI (zhs T (eg w) p k)) (nI k) V = some (nI (zhs T (eg w) p K), V') ∧ ∀ c j, c ≠ 38 → c ≠ 39 → V' c j = V c j := by
  intro m
  have hns := hT.1
  have hnw := g1.1
  obtain ⟨a1, a2, a3, a4, a5⟩ := g1.2 w hw
  obtain ⟨b1, b2, b3, b4, b5⟩ := g2.2 w hw
  induction m with
  | zero =>
    intro k fuel V hk hf h1 h2 h3
    obtain ⟨f, rfl⟩ : ∃ f, fuel = f + 1 := ⟨fuel - 1, by omega⟩
    have hkn : k = K := by omega
    subst hkn
    rw [fc_Walker_hours_L5, h1, if_pos (nI_le (Nat.le_refl k) (by omega))]
    exact ⟨V, rfl, fun _ _ _ _ => rfl⟩
  | succ m ih =>
    intro k fuel V hk hf h1 h2 h3
    obtain ⟨f, rfl⟩ : ∃ f, fuel = f + 1 := ⟨fuel - 1, by omega⟩
    rw [fc_Walker_hours_L5, h1, if_neg (nI_ge (a := k) (b := K) (by omega) (by omega))]
    have e1 : V (13 + w) k = nI (eg w k) := by rw [h3 _ _ (by omega) (by omega) (by omega) (by omega)]; exact b5 k (by omega)
    have hsm : zpl T (eg w) p k ≠ none := fun e => by
      have := zpl_none e (m + 1)
      rw [show k + (m + 1) = K by omega] at this
      rw [this] at hz; cases hz
    obtain ⟨q, hq⟩ : ∃ q, zpl T (eg w) p k = some q := by
      cases h : zpl T (eg w) p k with
      | none => exact absurd h hsm
      | some q => exact ⟨q, rfl⟩
    have hql := zpl_lt hT (fun k hk => a5 k hk) hp (k := k) (by omega) hq
    have hv : zpv T (eg w) p k = q := by unfold zpv; rw [hq]; rfl
    have e2 := h2 k (by omega)
    rw [hv] at e2
    obtain ⟨V2, r1, r2⟩ := (hC.2 V (fun c j hc => h3 c j (by omega) (by omega) (by omega) (by omega)) q (eg w k) hql (a5 k (by omega))).2
    simp (disch := omega) only [k_0, k_1, k_2, k_3, k_4, k_5, k_6, k_7, k_8, k_9, k_10, k_11, k_12, k_13, k_14, k_15, k_16, k_17, k_18, k_19, k_20, k_21, k_22, k_23, k_24, k_25, k_26, k_27, k_28, k_30, k_31, k_32, k_33, k_37, k_38, k_40, k_41, k_42, k_43, k_45, k_47, k_48, k_50, k_57, k_60, k_61, k_62, k_63, k_66, k_70, k_71, k_99, k_124, k_128, k_186, k_198, k_216, k_240, k_255, k_256, k_300, k_324, k_448, k_999, k_9999, k_10000, k_12345, k_20000, k_20001, k_20002, k_20003, k_20004, k_20005, k_20006, k_20007, k_20008, k_20009, k_20010, k_999999, k_100000000, k_m1, zl_add, zl_mul, zl_sub, zl_div, zl_mod, zl_lt, zl_le, zl_eq, zl_cl, zl_b, zm1_eq, zm1_eq2, zm1_lt, zm1_nlt, zm1_le, zm1_nle, z_guard, Option.bind_some, if_true, if_false, decide_true, show k < 9 by omega, show k < 8 by omega, show w < 10 by omega, e1, e2, r1]
    obtain ⟨V', s1, s2⟩ := ih (k + 1) f V2 (by omega) (by omega) (by rw [r2 _ _ (by omega) (by omega)]; exact h1) (fun i hi => by rw [r2 _ _ (by omega) (by omega)]; exact h2 i hi) (fun c j hc hc2 hc3 hc4 => by rw [r2 c j hc3 hc4]; exact h3 c j hc hc2 hc3 hc4)
    refine ⟨V', ?_, fun c j hc hc2 => by rw [s2 c j hc hc2, r2 c j hc hc2]⟩
    rw [← s1, zhs, hv]
    cases ht : T q (eg w k) with
    | none => simp only [← k_0]; rw [show nI (zhs T (eg w) p k) + 0 = nI (zhs T (eg w) p k) from Int32.add_zero _]; rfl
    | some r => simp only [zl_add]
theorem c_turns {V : zI} {T : Nat → Nat → Option (Nat × Nat)} {eg : Nat → Nat} {p K : Nat} (hK : K ≤ 8) (h1 : V 178 1 = nI K) (h2 : ∀ i, i ≤ K → V 179 i = nI (zpv T eg p i)) : ∀ (m k fuel : Nat), k + m = K → m < fuel → fc_Walker_turns_L4 V fuel (nI (zts T eg p k)) (nI k) = some (nI (zts T eg p K)) := by
  intro m
  induction m with
  | zero =>
    intro k fuel hk hf
    obtain ⟨f, rfl⟩ : ∃ f, fuel = f + 1 := ⟨fuel - 1, by omega⟩
    have hkn : k = K := by omega
    subst hkn
    rw [fc_Walker_turns_L4, h1, if_pos (nI_le (Nat.le_refl k) (by omega))]
  | succ m ih =>
    intro k fuel hk hf
    obtain ⟨f, rfl⟩ : ∃ f, fuel = f + 1 := ⟨fuel - 1, by omega⟩
    rw [fc_Walker_turns_L4, h1, if_neg (nI_ge (a := k) (b := K) (by omega) (by omega))]
    simp (disch := omega) only [k_0, k_1, k_2, k_3, k_4, k_5, k_6, k_7, k_8, k_9, k_10, k_11, k_12, k_13, k_14, k_15, k_16, k_17, k_18, k_19, k_20, k_21, k_22, k_23, k_24, k_25, k_26, k_27, k_28, k_30, k_31, k_32, k_33, k_37, k_38, k_40, k_41, k_42, k_43, k_45, k_47, k_48, k_50, k_57, k_60, k_61, k_62, k_63, k_66, k_70, k_71, k_99, k_124, k_128, k_186, k_198, k_216, k_240, k_255, k_256, k_300, k_324, k_448, k_999, k_9999, k_10000, k_12345, k_20000, k_20001, k_20002, k_20003, k_20004, k_20005, k_20006, k_20007, k_20008, k_20009, k_20010, k_999999, k_100000000, k_m1, zl_add, zl_mul, zl_sub, zl_div, zl_mod, zl_lt, zl_le, zl_eq, zl_cl, zl_b, zm1_eq, zm1_eq2, zm1_lt, zm1_nlt, zm1_le, zm1_nle, z_guard, Option.bind_some, if_true, if_false, decide_true, show k < 9 by omega, show k + 1 < 9 by omega, h2 k (by omega), h2 (k + 1) (by omega), zl_xor, zl_and]
    exact ih (k + 1) f (by omega) (by omega)
theorem c_seen {V : zI} {ns : Nat} {T : Nat → Nat → Option (Nat × Nat)} {eg : Nat → Nat} {p K : Nat} (hns : ns ≤ 8) (hlt : ∀ i, i ≤ K → zpv T eg p i < 2 * ns) (hK : K ≤ 8) (h1 : V 178 1 = nI K) (h2 : ∀ i, i ≤ K → V 179 i = nI (zpv T eg p i)) : ∀ (m k fuel : Nat), k + m = K → m < fuel → fc_Walker_seen_L4 V fuel (zsn T eg p k) (nI (k + 1)) = some (zsn T eg p K) := by
  intro m
  induction m with
  | zero =>
    intro k fuel hk hf
    obtain ⟨f, rfl⟩ : ∃ f, fuel = f + 1 := ⟨fuel - 1, by omega⟩
    have hkn : k = K := by omega
    subst hkn
    rw [fc_Walker_seen_L4, h1, if_pos (nI_lt (by omega) (by omega))]
  | succ m ih =>
    intro k fuel hk hf
    obtain ⟨f, rfl⟩ : ∃ f, fuel = f + 1 := ⟨fuel - 1, by omega⟩
    have hl := hlt (k + 1) (by omega)
    rw [fc_Walker_seen_L4, h1, if_neg (nI_nlt (b := k + 1) (a := K) (by omega) (by omega)), zl_b (by omega), show decide (k + 1 < 9) = true from decide_eq_true (by omega), z_guard, if_pos rfl, zl_cl _ (by omega), h2 (k + 1) (by omega), k_2, zl_div _ _ (by omega) (by omega) (by omega), nI_1]
    exact ih (k + 1) f (by omega) (by omega)
