/-! soonest, reached, first -/
theorem c_ways {I : zI} {ns : Nat} {T : Nat → Nat → Option (Nat × Nat)} (hT : wT ns T) (hC : cT I ns T) {a : Nat} (ha : a < 2 * ns) : ∃ I1 I2 D F, fc_Ways_survey I = some I1 ∧ fc_Ways_spread I1 (nI a) = some I2 ∧ zwst I2 105 D F ∧ zds ns T a D ∧ zFs ns T a D F ∧ ∀ c j, c ≠ 38 → c ≠ 39 → ¬ (104 ≤ c ∧ c ≤ 140) → I2 c j = I c j := by
  obtain ⟨I1, s1, s2, s3, s4⟩ := c_survey hT hC
  obtain ⟨I2, D, F, r1, r2, r3, r4, r5⟩ := c_spread hT ha s2 s3
  exact ⟨I1, I2, D, F, s1, r1, r2, r3, r4, fun c j h1 h2 h3 => by rw [r5 c j (by omega) (by omega), s4 c j h1 h2 (by omega) (by omega) (by omega)]⟩
theorem rR_way {I J I' J' : zI} (h : rR I J) (e : ∀ c j, c ≠ 38 → c ≠ 39 → c ≠ 43 → c ≠ 44 → ¬ (104 ≤ c ∧ c ≤ 177) → I' c j = I c j) (e2 : ∀ c j, c ≠ 7 → c ≠ 8 → c ≠ 9 → ¬ (c = 0 ∧ (j = 14 ∨ j = 15)) → J' c j = J c j) : rR I' J' :=
  rR_cg h (fun c k hc => e c k (by unfold zwrel zxrel at hc; omega) (by unfold zwrel zxrel at hc; omega) (by unfold zwrel zxrel at hc; omega) (by unfold zwrel zxrel at hc; omega) (by unfold zwrel zxrel at hc; omega)) (fun k _ => e2 1 k (by omega) (by omega) (by omega) (by omega)) (fun c k hc => e2 c k (by unfold mxrel at hc; omega) (by unfold mxrel at hc; omega) (by unfold mxrel at hc; omega) (by unfold mxrel at hc; omega))
theorem sim_soonest {I J : zI} (h : rR I J) (a b : Int32) : zSim (fc_T_soonest I a b) (fm_soonest J a b) := by
  obtain ⟨⟨⟨ns, nj, cs, ea, eb, tt, nw, kd, bg, sp, mk, eg, np, pl, hr, nt, ly, wo, al, dm, nf, fw, fo, hG, hW, hF, hD⟩, hT, hP⟩, hX⟩ := id h
  obtain ⟨g1, g2, g3⟩ := id hG
  obtain ⟨c1, c2, c3, c4, c5⟩ := id g2
  obtain ⟨m1, m2, m3, m4⟩ := id g3
  have hns := g1.1
  have hnj := g1.2.1

  obtain ⟨⟨t, t1, t2, t3⟩, _⟩ := id hT
  have hC := mk_cT g1 g2 t1 t2
  have hM := mk_mT g1 g3 t1 t3
  have hW := mk_wT g1 t
  unfold fc_T_soonest fm_soonest
  rw [c_hasPlace c1 hns a, m_isPlace m1 hns a, c_hasPlace c1 hns b, m_isPlace m1 hns b]
  simp only [Option.bind_some]
  by_cases ha : ∃ k, k < 2 * ns ∧ a = nI k
  · by_cases hb : ∃ k, k < 2 * ns ∧ b = nI k
    · simp only [ha, hb, if_true, z10, if_false]
      obtain ⟨p, hp, rfl⟩ := ha
      obtain ⟨q, hq, rfl⟩ := hb
      obtain ⟨I1, I2, D, F, r1, r2, r3, r4, r5, r6⟩ := c_ways hW hC hp
      obtain ⟨J2, s1, s2⟩ := m_soonOf hW hM hp (b := q) (by omega) r4
      have hR : rR I2 J2 := rR_way h (fun c j k1 k2 k3 k4 k5 => r6 c j k1 k2 (by omega)) s2
      rw [r1, Option.bind_some, r2, Option.bind_some, s1, Option.bind_some, zl_b (by omega), show decide (q < 16) = true from decide_eq_true (by omega), zl_cl q (by omega), (r3 q (by omega)).1]
      simp only [z_guard, if_true]
      cases e : D q with
      | none =>
        rw [if_neg (show ¬ (0 : Int32) ≤ zov none by decide), if_neg (show ¬ nI (zsv none) < (100000000 : Int32) by decide)]
        exact zSim_e (zsim_err hR (k := 2) (by omega) (by omega) rfl (by decide))
      | some d =>
        have hd := (r4.2.1 q d e).2
        rw [if_pos (show (0 : Int32) ≤ zov (some d) from nI_pos' (by omega)), if_pos (show nI (zsv (some d)) < (100000000 : Int32) from nI_lt (b := 100000000) (show d < 100000000 by omega) (by omega))]
        exact zSim_i rfl rfl hR
    · simp only [ha, hb, if_true, z10, if_false]
      exact zSim_e (zsim_err h (k := 1) (by omega) (by omega) rfl (by decide))
  · simp only [ha, if_true, if_false]
    exact zSim_e (zsim_err h (k := 1) (by omega) (by omega) rfl (by decide))
theorem c_reach_L {V : zI} {D : Nat → Option Nat} {F : Nat → Nat} (hw : zwst V 105 D F) (hb : ∀ p d, D p = some d → d ≤ 15984) : ∀ (m k fuel R : Nat), k + m = 16 → m < fuel → R < 65536 → (∀ q, R.testBit q = true ↔ q < k ∧ ∃ d, D q = some d) → ∃ R', R' < 65536 ∧ fc_T_reached_L43 fuel (nI R) (nI k) V = some (nI R', V) ∧ ∀ q, R'.testBit q = true ↔ q < 16 ∧ ∃ d, D q = some d := by
  intro m
  induction m with
  | zero =>
    intro k fuel R hk hf hR hq
    obtain ⟨f, rfl⟩ : ∃ f, fuel = f + 1 := ⟨fuel - 1, by omega⟩
    have hk4 : k = 16 := by omega
    subst hk4
    exact ⟨R, hR, by rw [fc_T_reached_L43, if_pos (show (16 : Int32) ≤ nI 16 by decide)], hq⟩
  | succ m ih =>
    intro k fuel R hk hf hR hq
    obtain ⟨f, rfl⟩ : ∃ f, fuel = f + 1 := ⟨fuel - 1, by omega⟩
    rw [fc_T_reached_L43, if_neg (show ¬ (16 : Int32) ≤ nI k from nI_ge (b := 16) (by omega) (by omega)), zl_b (by omega), show decide (k < 16) = true from decide_eq_true (by omega), zl_cl k (by omega), (hw k (by omega)).1, nI_1]
    simp only [z_guard, if_true]
    cases e : D k with
    | none =>
      rw [if_pos (show zov none < 0 by decide)]
      refine ih (k + 1) f R (by omega) (by omega) hR (fun q => ?_)
      rw [hq q]
      constructor
      · rintro ⟨h1, h2⟩
        exact ⟨by omega, h2⟩
      · rintro ⟨h1, d, h2⟩
        have : q ≠ k := fun e2 => by rw [e2, e] at h2; cases h2
        exact ⟨by omega, d, h2⟩
    | some d =>
      have hd := hb k d e
      rw [if_neg (show ¬ zov (some d) < 0 from nI_pos (by omega)), zshl2 k (by omega), zl_or]
      refine ih (k + 1) f (R ||| 2 ^ k) (by omega) (by omega) (zor_lt hR (Nat.pow_lt_pow_right (n := 16) (by omega) (by omega))) (fun q => ?_)
      rw [Nat.testBit_or, Bool.or_eq_true, hq q, Nat.testBit_two_pow, decide_eq_true_eq]
      constructor
      · rintro (⟨h1, h2⟩ | h1)
        · exact ⟨by omega, h2⟩
        · subst h1; exact ⟨by omega, d, e⟩
      · rintro ⟨h1, h2⟩
        by_cases e2 : q = k
        · exact Or.inr e2.symm
        · exact Or.inl ⟨by omega, h2⟩
theorem sim_reached {I J : zI} (h : rR I J) (a : Int32) : zSim (fc_T_reached I a) (fm_reached J a) := by
  obtain ⟨⟨⟨ns, nj, cs, ea, eb, tt, nw, kd, bg, sp, mk, eg, np, pl, hr, nt, ly, wo, al, dm, nf, fw, fo, hG, hW, hF, hD⟩, hT, hP⟩, hX⟩ := id h
  obtain ⟨g1, g2, g3⟩ := id hG
  obtain ⟨c1, c2, c3, c4, c5⟩ := id g2
  obtain ⟨m1, m2, m3, m4⟩ := id g3
  have hns := g1.1
  have hnj := g1.2.1

  obtain ⟨⟨t, t1, t2, t3⟩, _⟩ := id hT
  have hC := mk_cT g1 g2 t1 t2
  have hW := mk_wT g1 t
  unfold fc_T_reached fm_reached
  rw [c_hasPlace c1 hns a, m_isPlace m1 hns a]
  simp only [Option.bind_some]
  by_cases ha : ∃ k, k < 2 * ns ∧ a = nI k
  · simp only [ha, if_true, z10, if_false]
    obtain ⟨p, hp, rfl⟩ := ha
    obtain ⟨I1, I2, D, F, r1, r2, r3, r4, r5, r6⟩ := c_ways hW hC hp
    obtain ⟨R, q1, q2, q3⟩ := m_reachedBut (v2 := -1) (v3 := -1) g1 g3 (X := fun _ => false) (fun j hj => ⟨fun e => (by cases e), fun e => (by
      have hm := zl_eqm1 (n := j) (by omega)
      rcases e with e | e <;> rw [hm] at e <;> exact e.elim)⟩) (a := p) (by omega)
    obtain ⟨R', k1, k2, k3⟩ := c_reach_L r3 (fun p d hd => (r4.2.1 p d hd).2) 16 0 100 0 (by omega) (by omega) (by omega) (fun q => by rw [Nat.zero_testBit]; exact ⟨fun e => (by cases e), fun e => absurd e.1 (by omega)⟩)
    have hRR : R' = R := by
      apply Nat.eq_of_testBit_eq
      intro q
      have : R'.testBit q = true ↔ R.testBit q = true := by
        rw [k3 q, q3 q, zreach g1 hp r4 q]
        exact ⟨fun e => e.2, fun ⟨d, e⟩ => ⟨by have := (r4.2.1 q d e).1; omega, d, e⟩⟩
      exact Bool.eq_iff_iff.mpr this
    rw [r1, Option.bind_some, r2, Option.bind_some, q2, Option.bind_some, show fc_T_reached_L43 100 (0 : Int32) (0 : Int32) I2 = _ from k2, hRR]
    exact zSim_i rfl rfl (rR_way h (fun c j k1 k2 k3 k4 k5 => r6 c j k1 k2 (by omega)) (fun _ _ _ _ _ _ => rfl))
  · simp only [ha, if_true, if_false]
    exact zSim_e (zsim_err h (k := 1) (by omega) (by omega) rfl (by decide))
theorem c_first_no {V : zI} {q f : Nat} (hq : q < 16) (hf : V 106 q = nI f) (hf16 : f < 16) : ∀ (m k fuel : Nat), k + m = 4 → m < fuel → (∀ j, j < 4 → f.testBit j = false) → fc_T_first_L55 fuel (nI q) (nI k) V = (fc_T_refuse V (2 : Int32)).bind fun r => some (r.1, r.2)
  | 0, k, fuel, hk, hfu, hno => by
    obtain ⟨g, rfl⟩ : ∃ g, fuel = g + 1 := ⟨fuel - 1, by omega⟩
    have hk4 : k = 4 := by omega
    subst hk4
    rw [fc_T_first_L55, if_pos (show (4 : Int32) ≤ nI 4 by decide)]
  | m + 1, k, fuel, hk, hfu, hno => by
    obtain ⟨g, rfl⟩ : ∃ g, fuel = g + 1 := ⟨fuel - 1, by omega⟩
    have hb := zshr_b (x := f) (j := k) (by omega) (by omega)
    rw [fc_T_first_L55, if_neg (show ¬ (4 : Int32) ≤ nI k from nI_ge (b := 4) (by omega) (by omega)), zl_b (by omega), show decide (q < 16) = true from decide_eq_true (by omega), zl_cl q (by omega), hf, if_neg (fun e => by have := hb.mp e; rw [hno k (by omega)] at this; cases this), nI_1]
    exact c_first_no hq hf hf16 m (k + 1) g (by omega) (by omega) hno
theorem c_first_at {V : zI} {q f j0 : Nat} (hq : q < 16) (hf : V 106 q = nI f) (hf16 : f < 16) (hj : j0 < 4) (h1 : f.testBit j0 = true) (h0 : ∀ j, j < j0 → f.testBit j = false) : ∀ (m k fuel : Nat), k + m = j0 → m < fuel → fc_T_first_L55 fuel (nI q) (nI k) V = some (nI j0, V)
  | 0, k, fuel, hk, hfu => by
    obtain ⟨g, rfl⟩ : ∃ g, fuel = g + 1 := ⟨fuel - 1, by omega⟩
    have hk4 : k = j0 := by omega
    subst hk4
    have hb := zshr_b (x := f) (j := k) (by omega) (by omega)
    rw [fc_T_first_L55, if_neg (show ¬ (4 : Int32) ≤ nI k from nI_ge (b := 4) (by omega) (by omega)), zl_b (by omega), show decide (q < 16) = true from decide_eq_true (by omega), zl_cl q (by omega), hf, if_pos (hb.mpr h1)]
    rfl
  | m + 1, k, fuel, hk, hfu => by
    obtain ⟨g, rfl⟩ : ∃ g, fuel = g + 1 := ⟨fuel - 1, by omega⟩
    have hb := zshr_b (x := f) (j := k) (by omega) (by omega)
    rw [fc_T_first_L55, if_neg (show ¬ (4 : Int32) ≤ nI k from nI_ge (b := 4) (by omega) (by omega)), zl_b (by omega), show decide (q < 16) = true from decide_eq_true (by omega), zl_cl q (by omega), hf, if_neg (fun e => by have := hb.mp e; rw [h0 k (by omega)] at this; cases this), nI_1]
    exact c_first_at hq hf hf16 hj h1 h0 m (k + 1) g (by omega) (by omega)
theorem m_leads {J V : zI} {ns : Nat} {T : Nat → Nat → Option (Nat × Nat)} (hT : wT ns T) (hM : mT J ns T) (hex : ∀ r, r < 2 * ns → ∃ D, zds ns T r D) {a b d j : Nat} (ha : a < 2 * ns) (hb : b < 2 * ns) (hj : j < 4) {D : Nat → Option Nat} {F : Nat → Nat} (hD : zds ns T a D) (hF : zFs ns T a D F) (hd : D b = some d) (hab : b ≠ a) (hV : ∀ c j, c ≠ 7 → c ≠ 8 → c ≠ 9 → ¬ (c = 0 ∧ (j = 14 ∨ j = 15)) → V c j = J c j) : ∃ V', fm_leads V (nI a) (nI b) (nI j) (nI d) = some (if (F b).testBit j then 1 else 0, V') ∧ ∀ c j, c ≠ 7 → c ≠ 8 → c ≠ 9 → ¬ (c = 0 ∧ (j = 14 ∨ j = 15)) → V' c j = J c j := by
  have hns := hT.1
  have hdl := (hD.2.1 b d hd).2
  obtain ⟨V1, t1, t2, t3, t4⟩ := hM.2 V (fun k hk => hV 1 k (by omega) (by omega) (by omega) (by omega)) a j ha hj
  have hV1 : ∀ c j, c ≠ 7 → c ≠ 8 → c ≠ 9 → ¬ (c = 0 ∧ (j = 14 ∨ j = 15)) → V1 c j = J c j := fun c j q1 q2 q3 q4 => by rw [t4 c j q1 q2 q4]; exact hV c j q1 q2 q3 q4
  unfold fm_leads
  rw [t1, Option.bind_some]
  cases eT : T a j with
  | none =>
    have hno : (F b).testBit j = false := by
      cases e : (F b).testBit j with
      | false => rfl
      | true =>
        obtain ⟨r, h, d', n, k1, _⟩ := zFs_walk hT hD hF hj (d + 1) b d (by omega) hd hab e
        rw [eT] at k1; cases k1
    refine ⟨V1, ?_, hV1⟩
    rw [hno]
    rfl
  | some rh =>
    obtain ⟨r, h⟩ := rh
    obtain ⟨t5, t6⟩ := t2 (r, h) eT
    have hr := hT.2 a j (r, h) ha hj eT
    simp only at hr t5 t6
    obtain ⟨E, hE⟩ := hex r hr.1
    have hM1 : mT V1 ns T := mT_cg hM (fun k hk => hV1 1 k (by omega) (by omega) (by omega) (by omega))
    obtain ⟨V2, u1, u2⟩ := m_soonOf hT hM1 hr.1 (b := b) (by omega) hE
    have hV2 : ∀ c j, c ≠ 7 → c ≠ 8 → c ≠ 9 → ¬ (c = 0 ∧ (j = 14 ∨ j = 15)) → V2 c j = J c j := fun c j q1 q2 q3 q4 => by rw [u2 c j q1 q2 q3 q4]; exact hV1 c j q1 q2 q3 q4
    refine ⟨V2, ?_, hV2⟩
    rw [if_neg z10]
    show ((fm_soonestOf V1 (V1 0 14) (nI b)).bind fun r4 => if (100000000 : Int32) ≤ r4.1 then some ((0 : Int32), r4.2) else if ((V1 0 15) + r4.1) = nI d then some ((1 : Int32), r4.2) else some ((0 : Int32), r4.2)) = _
    rw [t5, t6, u1, Option.bind_some]
    cases eE : E b with
    | none =>
      have hno : (F b).testBit j = false := by
        cases e : (F b).testBit j with
        | false => rfl
        | true =>
          obtain ⟨r2, h2, d', n, k1, k2, k3⟩ := zFs_walk hT hD hF hj (d + 1) b d (by omega) hd hab e
          rw [eT] at k1
          cases k1
          obtain ⟨d2, k4, _⟩ := zds_min hT hr.1 hE k2
          rw [eE] at k4; cases k4
      rw [if_pos (show (100000000 : Int32) ≤ nI (zsv none) by decide), hno]
      rfl
    | some d' =>
      have hd' := (hE.2.1 b d' eE).2
      obtain ⟨n, hn⟩ := zds_walk hT hE (d' + 1) b d' (by omega) eE
      have hfull : zwlk T (n + 1) a b (h + d') := ⟨j, r, h, d', hj, eT, hn, rfl⟩
      obtain ⟨d3, k5, k6⟩ := zds_min hT ha hD hfull
      rw [hd] at k5
      cases k5
      rw [if_neg (show ¬ (100000000 : Int32) ≤ nI (zsv (some d')) from nI_ge (b := 100000000) (show d' < 100000000 by omega) (by omega)), show nI h + nI (zsv (some d')) = nI (h + d') from zl_add h d']
      have ee := nI_eq (a := h + d') (b := d) (by omega) (by omega)
      by_cases hq : h + d' = d
      · rw [if_pos (ee.mpr hq), zFs_of hT ha hD hF hj eT n b d d' hd hab hn hq]
        rfl
      · have hno : (F b).testBit j = false := by
          cases e : (F b).testBit j with
          | false => rfl
          | true =>
            obtain ⟨r2, h2, d2, n2, k1, k2, k3⟩ := zFs_walk hT hD hF hj (d + 1) b d (by omega) hd hab e
            rw [eT] at k1
            cases k1
            obtain ⟨d4, k4, k7⟩ := zds_min hT hr.1 hE k2
            rw [eE] at k4
            cases k4
            exact absurd (show h + d' = d by omega) hq
        rw [if_neg (fun e => hq (ee.mp e)), hno]
        rfl
theorem m_first_L {J : zI} {ns : Nat} {T : Nat → Nat → Option (Nat × Nat)} (hT : wT ns T) (hM : mT J ns T) (hex : ∀ r, r < 2 * ns → ∃ D, zds ns T r D) {a b d j0 : Nat} (ha : a < 2 * ns) (hb : b < 2 * ns) (hj : j0 < 4) {D : Nat → Option Nat} {F : Nat → Nat} (hD : zds ns T a D) (hF : zFs ns T a D F) (hd : D b = some d) (hab : b ≠ a) (h1 : (F b).testBit j0 = true) (h0 : ∀ j, j < j0 → (F b).testBit j = false) : ∀ (m k fuel : Nat) (V : zI), k + m = j0 → m < fuel → (∀ c j, c ≠ 7 → c ≠ 8 → c ≠ 9 → ¬ (c = 0 ∧ (j = 14 ∨ j = 15)) → V c j = J c j) → ∃ V', fm_first_L51 fuel (nI a) (nI b) (nI d) (nI k) V = some (nI j0, V') ∧ ∀ c j, c ≠ 7 → c ≠ 8 → c ≠ 9 → ¬ (c = 0 ∧ (j = 14 ∨ j = 15)) → V' c j = J c j
  | 0, k, fuel, V, hk, hfu, hV => by
    obtain ⟨g, rfl⟩ : ∃ g, fuel = g + 1 := ⟨fuel - 1, by omega⟩
    have hk4 : k = j0 := by omega
    subst hk4
    obtain ⟨V', l1, l2⟩ := m_leads hT hM hex ha hb hj hD hF hd hab hV
    refine ⟨V', ?_, l2⟩
    rw [fm_first_L51, l1, Option.bind_some, h1]
    rfl
  | m + 1, k, fuel, V, hk, hfu, hV => by
    obtain ⟨g, rfl⟩ : ∃ g, fuel = g + 1 := ⟨fuel - 1, by omega⟩
    obtain ⟨V1, l1, l2⟩ := m_leads (j := k) hT hM hex ha hb (by omega) hD hF hd hab hV
    obtain ⟨V', i1, i2⟩ := m_first_L hT hM hex ha hb hj hD hF hd hab h1 h0 m (k + 1) g V1 (by omega) (by omega) l2
    refine ⟨V', ?_, i2⟩
    rw [fm_first_L51, l1, Option.bind_some, h0 k (by omega), nI_1]
    exact i1
theorem zex {I : zI} {ns : Nat} {T : Nat → Nat → Option (Nat × Nat)} (hT : wT ns T) (hC : cT I ns T) (r : Nat) (hr : r < 2 * ns) : ∃ D, zds ns T r D := by
  obtain ⟨I1, I2, D, F, _, _, _, r4, _⟩ := c_ways hT hC hr
  exact ⟨D, r4⟩
theorem sim_first {I J : zI} (h : rR I J) (a b : Int32) : zSim (fc_T_first I a b) (fm_first J a b) := by
  obtain ⟨⟨⟨ns, nj, cs, ea, eb, tt, nw, kd, bg, sp, mk, eg, np, pl, hr, nt, ly, wo, al, dm, nf, fw, fo, hG, hW, hF, hD⟩, hT, hP⟩, hX⟩ := id h
  obtain ⟨g1, g2, g3⟩ := id hG
  obtain ⟨c1, c2, c3, c4, c5⟩ := id g2
  obtain ⟨m1, m2, m3, m4⟩ := id g3
  have hns := g1.1
  have hnj := g1.2.1

  obtain ⟨⟨t, t1, t2, t3⟩, _⟩ := id hT
  have hC := mk_cT g1 g2 t1 t2
  have hM := mk_mT g1 g3 t1 t3
  have hW := mk_wT g1 t
  unfold fc_T_first fm_first
  rw [c_hasPlace c1 hns a, m_isPlace m1 hns a, c_hasPlace c1 hns b, m_isPlace m1 hns b]
  simp only [Option.bind_some]
  by_cases ha : ∃ k, k < 2 * ns ∧ a = nI k
  · by_cases hb : ∃ k, k < 2 * ns ∧ b = nI k
    · simp only [ha, hb, if_true, z10, if_false]
      obtain ⟨p, hp, rfl⟩ := ha
      obtain ⟨q, hq, rfl⟩ := hb
      obtain ⟨I1, I2, D, F, r1, r2, r3, r4, r5, r6⟩ := c_ways hW hC hp
      obtain ⟨J2, s1, s2⟩ := m_soonOf hW hM hp (b := q) (by omega) r4
      have hR : ∀ J3 : zI, (∀ c j, c ≠ 7 → c ≠ 8 → c ≠ 9 → ¬ (c = 0 ∧ (j = 14 ∨ j = 15)) → J3 c j = J c j) → rR I2 J3 := fun J3 s3 => rR_way h (fun c j k1 k2 k3 k4 k5 => r6 c j k1 k2 (by omega)) s3
      have hFq := (r3 q (by omega)).2
      have hF16 := r5.1 q
      have hno : (q = p ∨ D q = none) → fc_T_first_L55 100 (nI q) (0 : Int32) I2 = (fc_T_refuse I2 (2 : Int32)).bind fun r => some (r.1, r.2) := fun hqp =>
        c_first_no (by omega) hFq hF16 4 0 100 (by omega) (by omega) (fun j hj => by
          cases e : (F q).testBit j with
          | false => rfl
          | true =>
            obtain ⟨k0, p2, e2, h2, d, d', _, _, _, k4, _⟩ := (r5.2 q j hj).mp e
            rcases hqp with hqp | hqp
            · exact absurd hqp k0
            · rw [hqp] at k4; cases k4)
      rw [r1, Option.bind_some, r2, Option.bind_some, s1, Option.bind_some]
      by_cases hpq : p = q
      · rw [if_pos (show nI p = nI q by rw [hpq]), hno (Or.inl hpq.symm)]
        exact zSim_e (zsim_err (hR J2 s2) (k := 2) (by omega) (by omega) rfl (by decide))
      · rw [if_neg (show ¬ nI p = nI q from fun e => hpq ((nI_eq (by omega) (by omega)).mp e))]
        cases e : D q with
        | none =>
          rw [hno (Or.inr e), if_neg (show ¬ nI (zsv none) < (100000000 : Int32) by decide)]
          exact zSim_e (zsim_err (hR J2 s2) (k := 2) (by omega) (by omega) rfl (by decide))
        | some d =>
          have hd := (r4.2.1 q d e).2
          rw [if_pos (show nI (zsv (some d)) < (100000000 : Int32) from nI_lt (b := 100000000) (show d < 100000000 by omega) (by omega))]
          obtain ⟨n, hn⟩ := zds_walk hW r4 (d + 1) q d (by omega) e
          have hsome : ∃ j, j < 4 ∧ (F q).testBit j = true := by
            cases n with
            | zero => exact absurd hn.1 hpq
            | succ n =>
              obtain ⟨j, r, h0, d', k1, k2, k3, k4⟩ := hn
              exact ⟨j, k1, zFs_of hW hp r4 r5 k1 k2 n q d d' e (fun e2 => hpq e2.symm) k3 k4.symm⟩
          obtain ⟨j0, ⟨l1, l2⟩, l3⟩ := pk_least (fun j => j < 4 ∧ (F q).testBit j = true) hsome
          have l4 : ∀ j, j < j0 → (F q).testBit j = false := fun j hj => by
            cases e2 : (F q).testBit j with
            | false => rfl
            | true => exact absurd ⟨by omega, e2⟩ (l3 j hj)
          obtain ⟨J3, f1, f2⟩ := m_first_L hW hM (zex hW hC) hp hq l1 r4 r5 e (fun e2 => hpq e2.symm) l2 l4 j0 0 100 J2 (by omega) (by omega) s2
          rw [show fc_T_first_L55 100 (nI q) (0 : Int32) I2 = _ from c_first_at (by omega) hFq hF16 l1 l2 l4 j0 0 100 (by omega) (by omega)]
          exact zSim_i rfl f1 (hR J3 f2)
    · simp only [ha, hb, if_true, z10, if_false]
      exact zSim_e (zsim_err h (k := 1) (by omega) (by omega) rfl (by decide))
  · simp only [ha, if_true, if_false]
    exact zSim_e (zsim_err h (k := 1) (by omega) (by omega) rfl (by decide))
