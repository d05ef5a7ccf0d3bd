/-! prices; people cross -/
theorem c_price {V : zI} {t : Option (List (Nat × Nat))} (h1 : wfT 3 t) (h2 : tC V 40 t) {k w a h g : Nat} (hk : k < 6) (hw : V 27 k = nI w) (ha : V 28 k = nI a) (hw9 : w ≤ 9999) (ha2 : a < 2) (hh : h < 2) (hg : g < 2) : ∃ V', fc_World_price V (nI k) (nI h) (nI g) = some (nI (zpr t w a (if h = g then 1 else 0)), V') ∧ ∀ i j, i ≠ 43 → i ≠ 44 → V' i j = V i j := by
  have key : ∀ s, s < 2 → ∃ V', fc_World_price_J32 V (nI w) (nI a) (nI s) = some (nI (zpr t w a s), V') ∧ ∀ i j, i ≠ 43 → i ≠ 44 → V' i j = V i j := fun s hs => by
    have ho := zor01 ha2 hs
    unfold fc_World_price_J32
    cases t with
    | none =>
      have h3 : V 40 0 = 0 := h2
      rw [h3, if_pos rfl]
      refine ⟨V, ?_, fun _ _ _ _ => rfl⟩
      unfold zpr
      simp (disch := omega) only [k_0, k_1, k_2, k_3, k_4, k_5, k_6, k_7, k_8, k_9, k_10, k_11, k_12, k_13, k_14, k_15, k_16, k_17, k_18, k_19, k_20, k_21, k_22, k_23, k_24, k_25, k_26, k_27, k_28, k_30, k_31, k_32, k_33, k_37, k_38, k_40, k_41, k_42, k_43, k_45, k_47, k_48, k_50, k_57, k_60, k_61, k_62, k_63, k_66, k_70, k_71, k_99, k_124, k_128, k_186, k_198, k_216, k_240, k_255, k_256, k_300, k_324, k_448, k_999, k_9999, k_10000, k_12345, k_20000, k_20001, k_20002, k_20003, k_20004, k_20005, k_20006, k_20007, k_20008, k_20009, k_20010, k_999999, k_100000000, k_m1, zl_add, zl_mul, zl_sub, zl_div, zl_mod, zl_lt, zl_le, zl_eq, zl_cl, zl_b, zm1_eq, zm1_eq2, zm1_lt, zm1_nlt, zm1_le, zm1_nle, z_guard, Option.bind_some, if_true, if_false, decide_true, zl_or]
      rcases (show a ||| s = 0 ∨ a ||| s = 1 by omega) with e | e
      · simp [e]
      · simp [e]
    | some l =>
      have h3 : V 40 0 = 1 := h2.1
      have hw2 : l.length ≤ 60 ∧ zdep 3 l = some 1 := h1
      obtain ⟨V', f1, f2⟩ := c_work_2 (V := V) (nn := 3) (by omega) hw2.1 ⟨1, hw2.2⟩ h2 (nI w) (nI a) (nI s) (nI 0)
      rw [show (fun i => if i = 0 then nI w else if i = 1 then nI a else if i = 2 then nI s else nI 0) = znm w a s 0 from znm_w _ _ _ _] at f1
      refine ⟨V', ?_, f2⟩
      rw [h3, if_neg z10, show fc_Text_workOut_2 V (nI w) (nI a) (nI s) 0 = _ from f1]
      unfold fc_T_held
      simp only [Option.bind_some, zpr]
      have := (zheld_i (lo := 0) (hi := 9999) (by omega) (by omega) ((zst (znm w a s 0) l).headD 0)).1
      exact congrArg (fun x => some (x, V')) this
  unfold fc_World_price
  rw [zl_b (by omega), show decide (k < 6) = true from decide_eq_true hk, zl_cl k (by omega), hw, ha]
  simp only [z_guard, if_true]
  have ee := nI_eq (a := h) (b := g) (by omega) (by omega)
  by_cases e : h = g
  · rw [if_pos (ee.mpr e), if_pos e]; exact key 1 (by omega)
  · rw [if_neg (fun q => e (ee.mp q)), if_neg e]; exact key 0 (by omega)
theorem m_thingOf {J : zI} {k f : Nat} (hk : k < 6) (hf : f < 3) : fm_thingOf J (nI k) (nI f) = some (J 1 (198 + 3 * k + f)) := by
  unfold fm_thingOf
  simp (disch := omega) only [k_0, k_1, k_2, k_3, k_4, k_5, k_6, k_7, k_8, k_9, k_10, k_11, k_12, k_13, k_14, k_15, k_16, k_17, k_18, k_19, k_20, k_21, k_22, k_23, k_24, k_25, k_26, k_27, k_28, k_30, k_31, k_32, k_33, k_37, k_38, k_40, k_41, k_42, k_43, k_45, k_47, k_48, k_50, k_57, k_60, k_61, k_62, k_63, k_66, k_70, k_71, k_99, k_124, k_128, k_186, k_198, k_216, k_240, k_255, k_256, k_300, k_324, k_448, k_999, k_9999, k_10000, k_12345, k_20000, k_20001, k_20002, k_20003, k_20004, k_20005, k_20006, k_20007, k_20008, k_20009, k_20010, k_999999, k_100000000, k_m1, zl_add, zl_mul, zl_sub, zl_div, zl_mod, zl_lt, zl_le, zl_eq, zl_cl, zl_b, zm1_eq, zm1_eq2, zm1_lt, zm1_nlt, zm1_le, zm1_nle, z_guard, Option.bind_some, if_true, if_false, decide_true, show 198 + 3 * k + f < 448 by omega]
theorem m_price {V : zI} {t : Option (List (Nat × Nat))} (h1 : wfT 3 t) (h2 : tM (V 1) 386 t) {k w a h g : Nat} (hk : k < 6) (hw : V 1 (198 + 3 * k + 1) = nI w) (ha : V 1 (198 + 3 * k + 2) = nI a) (hw9 : w ≤ 9999) (ha2 : a < 2) (hh : h < 2) (hg : g < 2) : ∃ V', fm_priceOf V (nI k) (nI h) (nI g) = some (nI (zpr t w a (if h = g then 1 else 0)), V') ∧ ∀ i j, i ≠ 7 → i ≠ 8 → V' i j = V i j := by
  unfold fm_priceOf
  rw [k_1, m_thingOf hk (by omega), k_2, m_thingOf hk (by omega), hw, ha]
  simp only [Option.bind_some]
  have ee := nI_eq (a := h) (b := g) (by omega) (by omega)
  by_cases e : h = g
  · rw [if_pos (ee.mpr e), if_pos e]
    obtain ⟨V', e1, e2⟩ := m_given (V := V) (t := t) (nn := 3) (u := 1) (a := w) (b := a) (c := 1) (d := 0) (by omega) (by omega) h1 h2 hw9 (by omega) (by omega) (by omega) (fun h => by omega) (fun _ => ⟨ha2, rfl⟩)
    refine ⟨V', ?_, e2⟩
    rw [show fm_given V (nI 1) (nI w) (nI a) (nI 1) 0 = _ from e1]; rfl
  · rw [if_neg (fun q => e (ee.mp q)), if_neg e]
    obtain ⟨V', e1, e2⟩ := m_given (V := V) (t := t) (nn := 3) (u := 1) (a := w) (b := a) (c := 0) (d := 0) (by omega) (by omega) h1 h2 hw9 (by omega) (by omega) (by omega) (fun h => by omega) (fun _ => ⟨ha2, rfl⟩)
    refine ⟨V', ?_, e2⟩
    rw [show fm_given V (nI 1) (nI w) (nI a) 0 0 = _ from e1]; rfl
theorem sim_thingIs {I J : zI} (h : rR I J) (a b : Int32) : zSim (fc_T_thingIs I a b) (fm_thingIs J a b) := by
  obtain ⟨⟨⟨ns, nj, cs, ea, eb, tt, nw, kd, bg, sp, mk, eg, np, pl, hr, nt, ly, wo, al, dm, nf, fw, fo, hG, hW, hF, hD⟩, hT, hP⟩, hX⟩ := id h
  obtain ⟨g1, g2, g3⟩ := id hG
  obtain ⟨c1, c2, c3, c4, c5⟩ := id g2
  obtain ⟨m1, m2, m3, m4⟩ := id g3
  have hns := g1.1
  have hnj := g1.2.1
  obtain ⟨f1, f2, f3⟩ := id hF
  obtain ⟨p1, p2, p3, p4⟩ := id f2
  obtain ⟨q1, q2, q3, q4⟩ := id f3
  have hnt := f1.2.2.1
  obtain ⟨t, t1, t2, t3⟩ := id hT.2
  unfold fc_T_thingIs fm_thingIs
  rw [c_hasThing p2 hnt, m_is (a := 4) (c := 4) rfl (by omega) q2 (by omega), mwi]
  simp only [Option.bind_some]
  by_cases ha : ∃ k, k < nt ∧ a = nI k
  · simp only [ha, if_true, z10, if_false]
    obtain ⟨k, hk, rfl⟩ := ha
    obtain ⟨r1, r2, r3⟩ := f1.2.2.2 k hk
    obtain ⟨b1, b2, b3⟩ := p4 k hk
    obtain ⟨d1, d2, d3⟩ := q4 k hk
    have zb6 : zb (nI k) 6 = true := by rw [zl_b (by omega)]; exact decide_eq_true (by omega)
    have cl6 : (nI k).toNatClampNeg = k := zl_cl k (by omega)
    have hmod : nI (ly k) % 2 = nI (ly k % 2) := by rw [k_2, zl_mod _ _ (by omega) (by omega) (by omega)]
    by_cases hb : 0 ≤ b ∧ b ≤ 4
    · simp only [hb, and_self, if_true, z10, if_false, zb6, cl6, z_guard, b1, b2, b3, hmod]
      obtain ⟨y, -, hy2, rfl⟩ := zl_nat (a := 0) (b := 4) hb (by omega) (by omega)
      have pr : ∀ g, g < 2 → zSim ((fc_World_price I (nI k) (nI (ly k % 2)) (nI g)).bind fun r => some (r.1, r.2)) ((fm_priceOf J (nI k) (nI (ly k % 2)) (nI g)).bind fun r => some (r.1, r.2)) := fun g hg => by
        obtain ⟨I', u1, u2⟩ := c_price (V := I) t1 t2 (k := k) (w := wo k) (a := al k) (h := ly k % 2) (g := g) (by omega) b2 b3 r2 r3 (by omega) hg
        obtain ⟨J', v1, v2⟩ := m_price (V := J) t1 t3 (k := k) (w := wo k) (a := al k) (h := ly k % 2) (g := g) (by omega) d2 d3 r2 r3 (by omega) hg
        rw [u1, v1]
        exact zSim_i rfl rfl (rR_cg h (fun c k hc => u2 c k (by unfold zwrel zxrel at hc; omega) (by unfold zwrel zxrel at hc; omega)) (fun k hk => v2 1 k (by omega) (by omega)) (fun c k hc => by unfold mxrel at hc; exact v2 c k (by omega) (by omega)))
      rcases (show y = 0 ∨ y = 1 ∨ y = 2 ∨ y = 3 ∨ y = 4 by omega) with rfl | rfl | rfl | rfl | rfl
      · have e1 : fm_thingOf J (nI k) (nI 0) = some (nI (ly k)) := by rw [m_thingOf (by omega) (by omega), Nat.add_zero, d1]
        have e2 : ¬ (3 : Int32) ≤ nI 0 := by decide
        rw [if_pos (show nI 0 = (0 : Int32) from rfl), if_neg e2, e1]
        exact zSim_i rfl rfl h
      · have e1 : fm_thingOf J (nI k) (nI 1) = some (nI (wo k)) := by rw [m_thingOf (by omega) (by omega), d2]
        have e2 : ¬ (3 : Int32) ≤ nI 1 := by decide
        rw [if_neg (show ¬ nI 1 = (0 : Int32) by decide), if_pos (show nI 1 = (1 : Int32) from rfl), if_neg e2, e1]
        exact zSim_i rfl rfl h
      · have e1 : fm_thingOf J (nI k) (nI 2) = some (nI (al k)) := by rw [m_thingOf (by omega) (by omega), d3]
        have e2 : ¬ (3 : Int32) ≤ nI 2 := by decide
        rw [if_neg (show ¬ nI 2 = (0 : Int32) by decide), if_neg (show ¬ nI 2 = (1 : Int32) by decide), if_pos (show nI 2 = (2 : Int32) from rfl), if_neg e2, e1]
        exact zSim_i rfl rfl h
      · have e1 : fm_thingOf J (nI k) 0 = some (nI (ly k)) := by rw [k_0, m_thingOf (by omega) (by omega), Nat.add_zero, d1]
        have e2 : (3 : Int32) ≤ nI 3 := by decide
        rw [if_neg (show ¬ nI 3 = (0 : Int32) by decide), if_neg (show ¬ nI 3 = (1 : Int32) by decide), if_neg (show ¬ nI 3 = (2 : Int32) by decide), if_pos (show nI 3 = (3 : Int32) from rfl), if_pos e2, e1]
        simp only [Option.bind_some, hmod]
        exact pr 0 (by omega)
      · have e1 : fm_thingOf J (nI k) 0 = some (nI (ly k)) := by rw [k_0, m_thingOf (by omega) (by omega), Nat.add_zero, d1]
        have e2 : (3 : Int32) ≤ nI 4 := by decide
        rw [if_neg (show ¬ nI 4 = (0 : Int32) by decide), if_neg (show ¬ nI 4 = (1 : Int32) by decide), if_neg (show ¬ nI 4 = (2 : Int32) by decide), if_neg (show ¬ nI 4 = (3 : Int32) by decide), if_pos (show nI 4 = (4 : Int32) from rfl), if_pos e2, e1]
        simp only [Option.bind_some, hmod]
        exact pr 1 (by omega)
    · simp only [hb, if_false, if_true]
      have hn : ∀ j : Nat, j ≤ 4 → ¬ b = nI j := fun j hj e => hb (by rw [e]; exact ⟨nI_pos' (by omega), nI_le (b := 4) hj (by omega)⟩)
      have q0 : ¬ b = (0 : Int32) := hn 0 (by omega)
      have q1 : ¬ b = (1 : Int32) := hn 1 (by omega)
      have q2 : ¬ b = (2 : Int32) := hn 2 (by omega)
      have q3 : ¬ b = (3 : Int32) := hn 3 (by omega)
      have q4 : ¬ b = (4 : Int32) := hn 4 (by omega)
      simp only [q0, q1, q2, q3, q4, if_false]
      exact zSim_e (zsim_err h (k := 1) (by omega) (by omega) rfl (by decide))
  · simp only [ha, if_true, if_false]
    exact zSim_e (zsim_err h (k := 1) (by omega) (by omega) rfl (by decide))
theorem zl_min {a b : Nat} (ha : a < 2 ^ 31) (hb : b < 2 ^ 31) : zmin (nI a) (nI b) = nI (if b < a then b else a) := by
  unfold zmin
  by_cases h : b < a
  · rw [if_pos h, if_pos ((nI_ltI hb ha).mpr h)]
  · rw [if_neg h, if_neg (fun q => h ((nI_ltI hb ha).mp q))]
theorem m_whereIs {J : zI} {p : Nat} (hp : p < 6) : fm_whereIs J (nI p) = some (J 1 (186 + 2 * p)) := by
  unfold fm_whereIs
  simp (disch := omega) only [k_0, k_1, k_2, k_3, k_4, k_5, k_6, k_7, k_8, k_9, k_10, k_11, k_12, k_13, k_14, k_15, k_16, k_17, k_18, k_19, k_20, k_21, k_22, k_23, k_24, k_25, k_26, k_27, k_28, k_30, k_31, k_32, k_33, k_37, k_38, k_40, k_41, k_42, k_43, k_45, k_47, k_48, k_50, k_57, k_60, k_61, k_62, k_63, k_66, k_70, k_71, k_99, k_124, k_128, k_186, k_198, k_216, k_240, k_255, k_256, k_300, k_324, k_448, k_999, k_9999, k_10000, k_12345, k_20000, k_20001, k_20002, k_20003, k_20004, k_20005, k_20006, k_20007, k_20008, k_20009, k_20010, k_999999, k_100000000, k_m1, zl_add, zl_mul, zl_sub, zl_div, zl_mod, zl_lt, zl_le, zl_eq, zl_cl, zl_b, zm1_eq, zm1_eq2, zm1_lt, zm1_nlt, zm1_le, zm1_nle, z_guard, Option.bind_some, if_true, if_false, decide_true, show 186 + 2 * p < 448 by omega]
theorem sim_crosses {I J : zI} (h : rR I J) {p np' e : Nat} (hp : p < np') (h7 : I 23 0 = nI np') (hn' : np' ≤ 6) (he : e < 4) : ∃ (r : Int32) (I' J' : zI), fc_World_crosses I (nI p) (nI e) = some (r, I') ∧ fm_goesOver J (nI p) (nI e) = some (r, J') ∧ rR I' J' ∧ I' 23 0 = nI np' := by
  obtain ⟨⟨⟨ns, nj, cs, ea, eb, tt, nw, kd, bg, sp, mk, eg, np, pl, hr, nt, ly, wo, al, dm, nf, fw, fo, hG, hW, hF, hD⟩, hT, hP⟩, hX⟩ := id h
  obtain ⟨g1, g2, g3⟩ := id hG
  obtain ⟨c1, c2, c3, c4, c5⟩ := id g2
  obtain ⟨m1, m2, m3, m4⟩ := id g3
  have hns := g1.1
  have hnj := g1.2.1
  obtain ⟨t, t1, t2, t3⟩ := id hT.1
  have hWT := mk_wT g1 t
  have hC := mk_cT g1 g2 t1 t2
  have hM := mk_mT g1 g3 t1 t3
  generalize zcr nj cs ea eb tt t = T at hWT hC hM
  obtain ⟨f1, f2, f3⟩ := id hF
  obtain ⟨p1, p2, p3, p4⟩ := id f2
  obtain ⟨q1, q2, q3, q4⟩ := id f3
  have hnp := f1.1
  have e7 := (nI_eq (by omega) (by omega)).mp (h7.symm.trans p1)
  subst e7
  obtain ⟨r1, r2⟩ := f1.2.1 p hp
  obtain ⟨b1, b2⟩ := p3 p hp
  obtain ⟨d1, d2⟩ := q3 p hp
  obtain ⟨x1, I2, x2, x3⟩ := hC.2 I (fun _ _ _ => rfl) (pl p) e r1 he
  obtain ⟨J2, y1, y2, y3, y4⟩ := hM.2 J (fun _ _ => rfl) (pl p) e r1 he
  unfold fc_World_crosses fm_goesOver
  rw [m_whereIs (by omega), d1, zl_b (by omega), show decide (p < 6) = true from decide_eq_true (by omega), zl_cl p (by omega), b1, x1, x2]
  simp only [z_guard, if_true, Option.bind_some]
  rw [y1]
  simp only [Option.bind_some]
  cases ht : T (pl p) e with
  | none =>
    simp only [if_true]
    rw [y3 ht]
    exact ⟨0, I, J, rfl, rfl, h, h7⟩
  | some q =>
    obtain ⟨z1, z2, z3⟩ := hWT.2 (pl p) e q r1 he ht
    obtain ⟨s1, s2⟩ := y2 q ht
    have m1x : ¬ nI q.1 = -1 := by rw [zl_eqm1 (by omega)]; exact id
    simp only [m1x, if_false, z10]
    rw [k_186, k_2, zl_mul, zl_add, nI_1, zl_b (by omega), zl_b (by omega), show decide (186 + 2 * p < 448) = true from decide_eq_true (by omega), show decide (186 + 2 * p + 1 < 448) = true from decide_eq_true (by omega), zl_cl _ (by omega), zl_cl _ (by omega)]
    simp only [z_guard, if_true]
    have w1 : zup J2 1 (186 + 2 * p) (J2 0 14) 1 (186 + 2 * p + 1) = nI (hr p) := by
      rw [zup_o (by omega), y4 1 _ (by omega) (by omega) (by omega)]; exact d2
    rw [w1, s1, s2, b2, zl_add, k_999999, zl_min (by omega) (by omega)]
    have hR1 : rR I2 J2 := rR_cg h (fun c k hc => x3 c k (by unfold zwrel zxrel at hc; omega) (by unfold zwrel zxrel at hc; omega)) (fun k hk => y4 1 k (by omega) (by omega) (by omega)) (fun c k hc => by unfold mxrel at hc; exact y4 c k (by omega) (by omega) (by omega))
    refine ⟨1, _, _, rfl, rfl, rR_L (I := I2) (J := J2) hR1.1.2.1 hR1.1.2.2 hR1.2 ⟨ns, nj, cs, ea, eb, tt, nw, kd, bg, sp, mk, eg, np', vup pl p q.1, vup hr p (if hr p + q.2 < 999999 then hr p + q.2 else 999999), nt, ly, wo, al, dm, nf, fw, fo, keepG hG (fun c k _ _ => by rw [zup_o (by omega), zup_o (by omega)]; exact x3 c k (by omega) (by omega)) (fun k hk => by rw [zup_o (by omega), zup_o (by omega)]; exact y4 1 k (by omega) (by omega) (by omega)), keepW hW (Nat.le_refl _) (fun c k _ _ => by rw [zup_o (by omega), zup_o (by omega)]; exact x3 c k (by omega) (by omega)) (fun k hk => by rw [zup_o (by omega), zup_o (by omega)]; exact y4 1 k (by omega) (by omega) (by omega)), ⟨⟨hnp, fun v hv => ?_, f1.2.2⟩, ⟨?_, ?_, fun v hv => ?_, fun v hv => ?_⟩, ⟨?_, ?_, fun v hv => ?_, fun v hv => ?_⟩⟩, keepD hD (Nat.le_refl _) (Nat.le_refl _) (fun c k hc => by rw [zup_o (by omega), zup_o (by omega)]; exact x3 c k (by omega) (by omega)) (fun k hk => by rw [zup_o (by omega), zup_o (by omega)]; exact y4 1 k (by omega) (by omega) (by omega))⟩ (by intros c k hc; unfold zxrel at hc; unfold zup; repeat rw [if_neg (by omega)]) (by intros; unfold zup; repeat rw [if_neg (by omega)]) (by intros c k hc; unfold mxrel at hc; unfold zup; repeat rw [if_neg (by omega)]), ?_⟩
    · by_cases hv2 : v = p
      · subst hv2; rw [vup_s, vup_s]
        refine ⟨z1, ?_⟩
        split <;> omega
      · rw [vup_n hv2, vup_n hv2]; exact f1.2.1 v hv
    · (unfold zup; repeat (first | rw [if_neg (by omega)] | rw [if_pos (by omega)])); rw [x3 _ _ (by omega) (by omega)]; exact p1
    · (unfold zup; repeat (first | rw [if_neg (by omega)] | rw [if_pos (by omega)])); rw [x3 _ _ (by omega) (by omega)]; exact p2
    · obtain ⟨l1, l2⟩ := p3 v hv
      by_cases hv2 : v = p
      · subst hv2; rw [vup_s, vup_s]
        exact ⟨by (unfold zup; repeat (first | rw [if_neg (by omega)] | rw [if_pos (by omega)])), by (unfold zup; repeat (first | rw [if_neg (by omega)] | rw [if_pos (by omega)]))⟩
      · rw [vup_n hv2, vup_n hv2]
        exact ⟨by (unfold zup; repeat (first | rw [if_neg (by omega)] | rw [if_pos (by omega)])); rw [x3 _ _ (by omega) (by omega)]; exact l1, by (unfold zup; repeat (first | rw [if_neg (by omega)] | rw [if_pos (by omega)])); rw [x3 _ _ (by omega) (by omega)]; exact l2⟩
    · obtain ⟨l1, l2, l3⟩ := p4 v hv
      exact ⟨by (unfold zup; repeat (first | rw [if_neg (by omega)] | rw [if_pos (by omega)])); rw [x3 _ _ (by omega) (by omega)]; exact l1, by (unfold zup; repeat (first | rw [if_neg (by omega)] | rw [if_pos (by omega)])); rw [x3 _ _ (by omega) (by omega)]; exact l2, by (unfold zup; repeat (first | rw [if_neg (by omega)] | rw [if_pos (by omega)])); rw [x3 _ _ (by omega) (by omega)]; exact l3⟩
    · (unfold zup; repeat (first | rw [if_neg (by omega)] | rw [if_pos (by omega)])); rw [y4 _ _ (by omega) (by omega) (by omega)]; exact q1
    · (unfold zup; repeat (first | rw [if_neg (by omega)] | rw [if_pos (by omega)])); rw [y4 _ _ (by omega) (by omega) (by omega)]; exact q2
    · obtain ⟨l1, l2⟩ := q3 v hv
      by_cases hv2 : v = p
      · subst hv2; rw [vup_s, vup_s]
        exact ⟨by (unfold zup; repeat (first | rw [if_neg (by omega)] | rw [if_pos (by omega)])), by (unfold zup; repeat (first | rw [if_neg (by omega)] | rw [if_pos (by omega)]))⟩
      · rw [vup_n hv2, vup_n hv2]
        exact ⟨by (unfold zup; repeat (first | rw [if_neg (by omega)] | rw [if_pos (by omega)])); rw [y4 _ _ (by omega) (by omega) (by omega)]; exact l1, by (unfold zup; repeat (first | rw [if_neg (by omega)] | rw [if_pos (by omega)])); rw [y4 _ _ (by omega) (by omega) (by omega)]; exact l2⟩
    · obtain ⟨l1, l2, l3⟩ := q4 v hv
      exact ⟨by (unfold zup; repeat (first | rw [if_neg (by omega)] | rw [if_pos (by omega)])); rw [y4 _ _ (by omega) (by omega) (by omega)]; exact l1, by (unfold zup; repeat (first | rw [if_neg (by omega)] | rw [if_pos (by omega)])); rw [y4 _ _ (by omega) (by omega) (by omega)]; exact l2, by (unfold zup; repeat (first | rw [if_neg (by omega)] | rw [if_pos (by omega)])); rw [y4 _ _ (by omega) (by omega) (by omega)]; exact l3⟩
    · (unfold zup; repeat (first | rw [if_neg (by omega)] | rw [if_pos (by omega)])); rw [x3 _ _ (by omega) (by omega)]; exact p1
/-- where one of the people stands, on both sides -/
theorem rR_pl {I J : zI} (h : rR I J) {p np' : Nat} (hp : p < np') (h7 : I 23 0 = nI np') (hn' : np' ≤ 6) : fm_whereIs J (nI p) = some (I 24 p) := by
  obtain ⟨⟨⟨ns, nj, cs, ea, eb, tt, nw, kd, bg, sp, mk, eg, np, pl, hr, nt, ly, wo, al, dm, nf, fw, fo, hG, hW, hF, hD⟩, hT, hP⟩, hX⟩ := id h
  obtain ⟨g1, g2, g3⟩ := id hG
  obtain ⟨c1, c2, c3, c4, c5⟩ := id g2
  obtain ⟨m1, m2, m3, m4⟩ := id g3
  have hns := g1.1
  have hnj := g1.2.1
  obtain ⟨f1, f2, f3⟩ := id hF
  have hnp := f1.1
  have e7 := (nI_eq (by omega) (by omega)).mp (h7.symm.trans f2.1)
  subst e7
  rw [m_whereIs (by omega), (f3.2.2.1 p hp).1, (f2.2.2.1 p hp).1]
theorem sim_cross {I J : zI} (h : rR I J) (a b : Int32) : zSim (fc_T_cross I a b) (fm_cross J a b) := by
  obtain ⟨⟨⟨ns, nj, cs, ea, eb, tt, nw, kd, bg, sp, mk, eg, np, pl, hr, nt, ly, wo, al, dm, nf, fw, fo, hG, hW, hF, hD⟩, hT, hP⟩, hX⟩ := id h
  obtain ⟨g1, g2, g3⟩ := id hG
  obtain ⟨c1, c2, c3, c4, c5⟩ := id g2
  obtain ⟨m1, m2, m3, m4⟩ := id g3
  have hns := g1.1
  have hnj := g1.2.1
  obtain ⟨f1, f2, f3⟩ := id hF
  have hnp := f1.1
  unfold fc_T_cross fm_cross
  rw [c_hasPerson f2.1 hnp, m_is (a := 3) (c := 3) rfl (by omega) f3.1 (by omega), mwi, cwi]
  simp only [Option.bind_some]
  by_cases ha : ∃ k, k < np ∧ a = nI k
  · by_cases hb : 0 ≤ b ∧ b ≤ 3
    · simp only [ha, hb, and_self, if_true, z10, if_false]
      obtain ⟨p, hp, rfl⟩ := ha
      obtain ⟨e, -, he, rfl⟩ := zl_nat (a := 0) (b := 3) hb (by omega) (by omega)
      obtain ⟨r, I', J', s1, s2, h, s4⟩ := sim_crosses h hp f2.1 hnp (show e < 4 by omega)
      rw [s1, s2]
      simp only [Option.bind_some]
      by_cases hr : r = 0
      · simp only [hr, if_true]
        exact zSim_e (zsim_err h (k := 3) (by omega) (by omega) rfl (by decide))
      · simp only [hr, if_false]
        rw [rR_pl h hp s4 hnp, zl_b (by omega), show decide (p < 6) = true from decide_eq_true (by omega), zl_cl p (by omega)]
        exact zSim_i rfl rfl h
    · simp only [ha, hb, if_true, z10, if_false]
      exact zSim_e (zsim_err h (k := 1) (by omega) (by omega) rfl (by decide))
  · simp only [ha, if_true, if_false]
    exact zSim_e (zsim_err h (k := 1) (by omega) (by omega) rfl (by decide))
