/-! meet -/
def zbm (D E : Nat → Option Nat) : Nat → Option (Nat × Nat)
  | 0 => none
  | k + 1 => match D k, E k with
    | some x, some y => (match zbm D E k with
      | none => some (k, x + y)
      | some b => if b.2 ≤ x + y then some b else some (k, x + y))
    | _, _ => zbm D E k
theorem zbm_n1 {D E : Nat → Option Nat} {k : Nat} (h : D k = none) : zbm D E (k + 1) = zbm D E k := by
  rw [zbm, h]
theorem zbm_n2 {D E : Nat → Option Nat} {k : Nat} (h : E k = none) : zbm D E (k + 1) = zbm D E k := by
  rw [zbm, h]
  cases D k <;> rfl
theorem zbm_s0 {D E : Nat → Option Nat} {k x y : Nat} (h1 : D k = some x) (h2 : E k = some y) (h : zbm D E k = none) : zbm D E (k + 1) = some (k, x + y) := by
  rw [zbm, h1, h2, h]
theorem zbm_s1 {D E : Nat → Option Nat} {k x y : Nat} {b : Nat × Nat} (h1 : D k = some x) (h2 : E k = some y) (h : zbm D E k = some b) : zbm D E (k + 1) = if b.2 ≤ x + y then some b else some (k, x + y) := by
  rw [zbm, h1, h2, h]
theorem zbm_of {D E : Nat → Option Nat} : ∀ k b, zbm D E k = some b → b.1 < k ∧ ∃ x y, D b.1 = some x ∧ E b.1 = some y ∧ b.2 = x + y
  | 0, b, h => by cases h
  | k + 1, b, h => by
    have hold : zbm D E k = some b → b.1 < k + 1 ∧ ∃ x y, D b.1 = some x ∧ E b.1 = some y ∧ b.2 = x + y := fun h2 => by
      obtain ⟨k1, k2⟩ := zbm_of k b h2
      exact ⟨by omega, k2⟩
    cases e1 : D k with
    | none => rw [zbm_n1 e1] at h; exact hold h
    | some x =>
      cases e2 : E k with
      | none => rw [zbm_n2 e2] at h; exact hold h
      | some y =>
        cases e3 : zbm D E k with
        | none =>
          rw [zbm_s0 e1 e2 e3] at h
          cases h
          exact ⟨by omega, x, y, e1, e2, rfl⟩
        | some b0 =>
          rw [zbm_s1 e1 e2 e3] at h
          by_cases hc : b0.2 ≤ x + y
          · rw [if_pos hc] at h
            cases h
            exact hold e3
          · rw [if_neg hc] at h
            cases h
            exact ⟨by omega, x, y, e1, e2, rfl⟩
def zb1 (o : Option (Nat × Nat)) : Int32 := match o with
  | none => -1
  | some b => nI b.1
def zb2 (f : Nat) (o : Option (Nat × Nat)) : Int32 := match o with
  | none => nI f
  | some b => nI b.2
theorem c_meet_L {V : zI} {D E : Nat → Option Nat} {F G : Nat → Nat} (hD : zwst V 105 D F) (hE : zwst V 142 E G) (bD : ∀ p d, D p = some d → d ≤ 15984) (bE : ∀ p d, E p = some d → d ≤ 15984) : ∀ (m k fuel : Nat), k + m = 16 → m < fuel → fc_T_meetingPlace_L46 fuel (zb1 (zbm D E k)) (zb2 0 (zbm D E k)) (nI k) V = some (zb1 (zbm D E 16), V) := by
  intro m
  induction m with
  | zero =>
    intro k fuel hk hf
    obtain ⟨f, rfl⟩ : ∃ f, fuel = f + 1 := ⟨fuel - 1, by omega⟩
    have hk4 : k = 16 := by omega
    subst hk4
    rw [fc_T_meetingPlace_L46, if_pos (show (16 : Int32) ≤ nI 16 by decide)]
  | succ m ih =>
    intro k fuel hk hf
    obtain ⟨f, rfl⟩ : ∃ f, fuel = f + 1 := ⟨fuel - 1, by omega⟩
    have i1 := ih (k + 1) f (by omega) (by omega)
    rw [fc_T_meetingPlace_L46, if_neg (show ¬ (16 : Int32) ≤ nI k from nI_ge (b := 16) (by omega) (by omega)), zl_b (by omega), show decide (k < 16) = true from decide_eq_true (by omega), zl_cl k (by omega), (hD k (by omega)).1, (hE k (by omega)).1, nI_1]
    simp only [z_guard, if_true]
    cases e1 : D k with
    | none =>
      rw [zbm_n1 e1] at i1
      rw [if_pos (show zov none < 0 by decide)]
      exact i1
    | some x =>
      have hx := bD k x e1
      rw [if_neg (show ¬ zov (some x) < 0 from nI_pos (by omega))]
      cases e2 : E k with
      | none =>
        rw [zbm_n2 e2] at i1
        rw [if_neg (show ¬ (0 : Int32) ≤ zov none by decide)]
        exact i1
      | some y =>
        have hy := bE k y e2
        rw [if_pos (show (0 : Int32) ≤ zov (some y) from nI_pos' (by omega)), show zov (some x) + zov (some y) = nI (x + y) from zl_add x y]
        cases e3 : zbm D E k with
        | none =>
          rw [zbm_s0 e1 e2 e3] at i1
          rw [if_pos (show zb1 none = -1 from rfl)]
          exact i1
        | some b =>
          obtain ⟨b1, x2, y2, b2, b3, b4⟩ := zbm_of k b e3
          have hx2 := bD _ _ b2
          have hy2 := bE _ _ b3
          rw [zbm_s1 e1 e2 e3] at i1
          rw [if_neg (show ¬ zb1 (some b) = -1 by rw [show zb1 (some b) = nI b.1 from rfl, zl_eqm1 (by omega)]; exact id)]
          by_cases hc : b.2 ≤ x + y
          · rw [if_pos hc] at i1
            rw [if_pos (show zb2 0 (some b) ≤ nI (x + y) from nI_le hc (by omega))]
            exact i1
          · rw [if_neg hc] at i1
            rw [if_neg (show ¬ zb2 0 (some b) ≤ nI (x + y) from nI_ge (by omega) (by omega))]
            exact i1
theorem m_meet_L {J : zI} {ns : Nat} {T : Nat → Nat → Option (Nat × Nat)} (hT : wT ns T) (hM : mT J ns T) {p q x y : Nat} (v3 : Int32) (hp : p < 6) (hq : q < 6) (hx : x < 2 * ns) (hy : y < 2 * ns) (wx : J 1 (186 + 2 * p) = nI x) (wy : J 1 (186 + 2 * q) = nI y) {D E : Nat → Option Nat} (hD : zds ns T x D) (hE : zds ns T y E) : ∀ (m k fuel : Nat) (V : zI), k + m = 2 * ns → m < fuel → (∀ c j, c ≠ 7 → c ≠ 8 → c ≠ 9 → ¬ (c = 0 ∧ (j = 14 ∨ j = 15)) → V c j = J c j) → ∃ V', fm_meet_L72 fuel (nI p) (nI q) v3 (zb1 (zbm D E k)) (zb2 100000000 (zbm D E k)) (nI k) V = (match zbm D E (2 * ns) with
    | none => (fm_finding V' (-1000002 : Int32)).bind fun r => some (r.1, r.2)
    | some b => if v3 = (1 : Int32) then some (nI b.2, V') else some (nI (b.1 / 2), V')) ∧ ∀ c j, c ≠ 7 → c ≠ 8 → c ≠ 9 → ¬ (c = 0 ∧ (j = 14 ∨ j = 15)) → V' c j = J c j := by
  have hns := hT.1
  intro m
  induction m with
  | zero =>
    intro k fuel V hk hf hV
    obtain ⟨f, rfl⟩ : ∃ f, fuel = f + 1 := ⟨fuel - 1, by omega⟩
    have hk4 : k = 2 * ns := by omega
    subst hk4
    have h0 : V 1 0 = nI ns := by rw [hV 1 0 (by omega) (by omega) (by omega) (by omega)]; exact hM.1
    refine ⟨V, ?_, hV⟩
    rw [fm_meet_L72, zcl0, h0, show (2 : Int32) * nI ns = nI (2 * ns) from zl_mul 2 ns, if_pos (nI_le (by omega) (by omega))]
    cases e : zbm D E (2 * ns) with
    | none => rw [if_neg (show ¬ (0 : Int32) ≤ zb1 none by decide)]
    | some b =>
      have hb := (zbm_of _ b e).1
      rw [if_pos (show (0 : Int32) ≤ zb1 (some b) from nI_pos' (by omega)), show zb1 (some b) / (2 : Int32) = nI (b.1 / 2) from zl_div b.1 2 (by omega) (by omega) (by omega)]
      rfl
  | succ m ih =>
    intro k fuel V hk hf hV
    obtain ⟨f, rfl⟩ : ∃ f, fuel = f + 1 := ⟨fuel - 1, by omega⟩
    have h0 : V 1 0 = nI ns := by rw [hV 1 0 (by omega) (by omega) (by omega) (by omega)]; exact hM.1
    have hMV : mT V ns T := mT_cg hM (fun j _ => hV 1 j (by omega) (by omega) (by omega) (by omega))
    obtain ⟨V1, s1, s2⟩ := m_soonOf hT hMV hx (b := k) (by omega) hD
    have hV1 : ∀ c j, c ≠ 7 → c ≠ 8 → c ≠ 9 → ¬ (c = 0 ∧ (j = 14 ∨ j = 15)) → V1 c j = J c j := fun c j q1 q2 q3 q4 => by rw [s2 c j q1 q2 q3 q4]; exact hV c j q1 q2 q3 q4
    have hMV1 : mT V1 ns T := mT_cg hM (fun j _ => hV1 1 j (by omega) (by omega) (by omega) (by omega))
    obtain ⟨V2, s3, s4⟩ := m_soonOf hT hMV1 hy (b := k) (by omega) hE
    have hV2 : ∀ c j, c ≠ 7 → c ≠ 8 → c ≠ 9 → ¬ (c = 0 ∧ (j = 14 ∨ j = 15)) → V2 c j = J c j := fun c j q1 q2 q3 q4 => by rw [s4 c j q1 q2 q3 q4]; exact hV1 c j q1 q2 q3 q4
    obtain ⟨V', i1, i2⟩ := ih (k + 1) f V2 (by omega) (by omega) hV2
    refine ⟨V', ?_, i2⟩
    rw [fm_meet_L72, zcl0, h0, show (2 : Int32) * nI ns = nI (2 * ns) from zl_mul 2 ns, if_neg (nI_ge (by omega) (by omega)), m_whereIs hp, hV 1 _ (by omega) (by omega) (by omega) (by omega), wx, Option.bind_some, s1, Option.bind_some]
    simp only
    rw [m_whereIs hq, hV1 1 _ (by omega) (by omega) (by omega) (by omega), wy, Option.bind_some, s3, Option.bind_some]
    simp only
    rw [zl_add, nI_1]
    have hle : zb2 100000000 (zbm D E k) ≤ nI 100000000 := by
      cases e : zbm D E k with
      | none => exact nI_le (Nat.le_refl _) (by omega)
      | some b =>
        obtain ⟨b1, x2, y2, b2, b3, b4⟩ := zbm_of k b e
        have hx2 := (hD.2.1 _ _ b2).2
        have hy2 := (hE.2.1 _ _ b3).2
        exact nI_le (show b.2 ≤ 100000000 by omega) (by omega)
    have hskip : 100000000 ≤ zsv (D k) + zsv (E k) → zsv (D k) + zsv (E k) < 2 ^ 31 → zb2 100000000 (zbm D E k) ≤ nI (zsv (D k) + zsv (E k)) := fun h1 h2 => Int32.le_trans hle (nI_le h1 h2)
    cases e1 : D k with
    | none =>
      rw [zbm_n1 e1] at i1
      rw [e1] at hskip
      have hl : zsv (E k) ≤ 100000000 := by
        cases e2 : E k with
        | none => exact Nat.le_refl _
        | some y2 => have := (hE.2.1 k y2 e2).2; show y2 ≤ 100000000; omega
      have hz : zsv none = 100000000 := rfl
      rw [if_pos (hskip (by omega) (by omega))]
      exact i1
    | some x1 =>
      have hx1 := (hD.2.1 k x1 e1).2
      have hz1 : zsv (some x1) = x1 := rfl
      cases e2 : E k with
      | none =>
        rw [zbm_n2 e2] at i1
        rw [e1, e2] at hskip
        have hz : zsv none = 100000000 := rfl
        rw [if_pos (hskip (by omega) (by omega))]
        exact i1
      | some y1 =>
        have hy1 := (hE.2.1 k y1 e2).2
        rw [show zsv (some x1) + zsv (some y1) = x1 + y1 from rfl]
        cases e3 : zbm D E k with
        | none =>
          rw [zbm_s0 e1 e2 e3] at i1
          rw [if_neg (show ¬ zb2 100000000 none ≤ nI (x1 + y1) from nI_ge (by omega) (by omega))]
          exact i1
        | some b =>
          obtain ⟨b1, x2, y2, b2, b3, b4⟩ := zbm_of k b e3
          have hx2 := (hD.2.1 _ _ b2).2
          have hy2 := (hE.2.1 _ _ b3).2
          rw [zbm_s1 e1 e2 e3] at i1
          by_cases hc : b.2 ≤ x1 + y1
          · rw [if_pos hc] at i1
            rw [if_pos (show zb2 100000000 (some b) ≤ nI (x1 + y1) from nI_le hc (by omega))]
            exact i1
          · rw [if_neg hc] at i1
            rw [if_neg (show ¬ zb2 100000000 (some b) ≤ nI (x1 + y1) from nI_ge (by omega) (by omega))]
            exact i1
theorem zbm_end {D E : Nat → Option Nat} {n : Nat} (h : ∀ p, n ≤ p → D p = none) : ∀ m, zbm D E (n + m) = zbm D E n
  | 0 => rfl
  | m + 1 => by
    rw [show n + (m + 1) = (n + m) + 1 by omega, zbm_n1 (h _ (by omega)), zbm_end h m]
theorem sim_meet {I J : zI} (h : rR I J) (a b c : Int32) : zSim (fc_T_meet I a b c) (fm_meet J a b c) := by
  obtain ⟨⟨⟨ns, nj, cs, ea, eb, tt, nw, kd, bg, sp, mk, eg, np, pl, hr, nt, ly, wo, al, dm, nf, fw, fo, hG, hW, hF, hD⟩, hT, hP⟩, hX⟩ := id h
  obtain ⟨g1, g2, g3⟩ := id hG
  obtain ⟨c1, c2, c3, c4, c5⟩ := id g2
  obtain ⟨m1, m2, m3, m4⟩ := id g3
  have hns := g1.1
  have hnj := g1.2.1

  obtain ⟨⟨t, t1, t2, t3⟩, _⟩ := id hT
  obtain ⟨f1, f2, f3⟩ := id hF
  have hnp := f1.1
  have hC := mk_cT g1 g2 t1 t2
  have hM := mk_mT g1 g3 t1 t3
  have hW := mk_wT g1 t
  unfold fc_T_meet fm_meet
  rw [c_hasPerson f2.1 hnp a, c_hasPerson f2.1 hnp b, m_is (a := 3) (c := 3) rfl (by omega) f3.1 (by omega) a, m_is (a := 3) (c := 3) rfl (by omega) f3.1 (by omega) b]
  simp only [Option.bind_some]
  have hrf : fc_T_meet_J36 I a b c = (fc_T_refuse I (1 : Int32)).bind fun r => some (r.1, r.2) := by
    unfold fc_T_meet_J36 fc_T_meet_J37
    rw [if_pos rfl]
  by_cases ha : ∃ k, k < np ∧ a = nI k
  · by_cases hb : ∃ k, k < np ∧ b = nI k
    · simp only [ha, hb, if_true, z10, if_false]
      by_cases hab : a = b
      · simp only [hab, if_true]
        rw [hab] at hrf
        rw [hrf]
        exact zSim_e (zsim_err h (k := 1) (by omega) (by omega) rfl (by decide))
      · simp only [hab, if_false]
        unfold fc_T_meet_J37
        rw [if_neg z10, cwi, mwi, Option.bind_some, Option.bind_some]
        by_cases hc : 0 ≤ c ∧ c ≤ 2
        · simp only [hc, and_self, if_true, z10, if_false]
          obtain ⟨p, hp, rfl⟩ := ha
          obtain ⟨q, hq, rfl⟩ := hb
          obtain ⟨p1, p2⟩ := f2.2.2.1 p hp
          obtain ⟨p3, p4⟩ := f2.2.2.1 q hq
          obtain ⟨u1, u2⟩ := f3.2.2.1 p hp
          obtain ⟨u3, u4⟩ := f3.2.2.1 q hq
          have lp := (f1.2.1 p hp).1
          have lq := (f1.2.1 q hq).1
          rw [zl_b (by omega), show decide (p < 6) = true from decide_eq_true (by omega), zl_b (by omega), show decide (q < 6) = true from decide_eq_true (by omega), zl_cl p (by omega), zl_cl q (by omega), p1, p3, m_whereIs (show p < 6 by omega), m_whereIs (show q < 6 by omega), u1, u3]
          simp only [z_guard, if_true, Option.bind_some]
          by_cases h0 : c = 0
          · simp only [h0, if_true]
            by_cases he : nI (pl p) = nI (pl q)
            · rw [if_pos he, if_pos he]; exact zSim_i rfl rfl h
            · rw [if_neg he, if_neg he]; exact zSim_i rfl rfl h
          · simp only [h0, if_false]
            obtain ⟨I1, I2, D, F, r1, r2, r3, r4, r5, r6⟩ := c_ways hW hC lp
            have hC2 : cT I2 ns (zcr nj cs ea eb tt t) := cT_cg hC (fun x j hx => r6 x j (by omega) (by omega) (by omega))
            obtain ⟨I3, s1, s2, s3, s4⟩ := c_survey_2 hW hC2
            obtain ⟨I4, E, G, v1, v2, v3, v4, v5⟩ := c_spread_2 hW lq s2 s3
            have hI4 : ∀ x j, x ≠ 38 → x ≠ 39 → ¬ (141 ≤ x ∧ x ≤ 177) → I4 x j = I2 x j := fun x j k1 k2 k3 => by rw [v5 x j (by omega) (by omega), s4 x j k1 k2 (by omega) (by omega) (by omega)]
            have hD4 : zwst I4 105 D F := fun x hx => by rw [hI4 _ _ (by omega) (by omega) (by omega), hI4 _ _ (by omega) (by omega) (by omega)]; exact r3 x hx
            have hL := c_meet_L hD4 v2 (fun x d hd => (r4.2.1 x d hd).2) (fun x d hd => (v3.2.1 x d hd).2) 16 0 100 (by omega) (by omega)
            have hmp : fc_T_meetingPlace I (nI (pl p)) (nI (pl q)) = some (zb1 (zbm D E 16), I4) := by
              unfold fc_T_meetingPlace
              rw [r1, Option.bind_some, r2, Option.bind_some, s1, Option.bind_some, v1, Option.bind_some]
              exact hL
            have hend := zbm_end (D := D) (E := E) (n := 2 * ns) (fun x hx => by
              cases e : D x with
              | none => rfl
              | some d => have := (r4.2.1 x d e).1; omega) (16 - 2 * ns)
            rw [show 2 * ns + (16 - 2 * ns) = 16 by omega] at hend
            obtain ⟨J2, m1', m2'⟩ := m_meet_L hW hM c (show p < 6 by omega) (show q < 6 by omega) lp lq u1 u3 r4 v3 (2 * ns) 0 100 J (by omega) (by omega) (fun _ _ _ _ _ _ => rfl)
            rw [← hend] at m1'
            have hR : rR I4 J2 := rR_way h (fun x j k1 k2 k3 k4 k5 => by rw [hI4 x j k1 k2 (by omega), r6 x j k1 k2 (by omega)]) m2'
            rw [hmp, Option.bind_some, show fm_meet_L72 100 (nI p) (nI q) c (-1 : Int32) (100000000 : Int32) (0 : Int32) J = _ from m1']
            cases e : zbm D E 16 with
            | none =>
              rw [if_pos (show zb1 none = -1 from rfl)]
              exact zSim_e (zsim_err hR (k := 2) (by omega) (by omega) rfl (by decide))
            | some bb =>
              obtain ⟨b1, x2, y2, b2, b3, b4⟩ := zbm_of 16 bb e
              have hx2 := (r4.2.1 _ _ b2).2
              have hy2 := (v3.2.1 _ _ b3).2
              rw [if_neg (show ¬ zb1 (some bb) = -1 by rw [show zb1 (some bb) = nI bb.1 from rfl, zl_eqm1 (by omega)]; exact id), show zb1 (some bb) = nI bb.1 from rfl, zl_b (by omega), show decide (bb.1 < 16) = true from decide_eq_true (by omega), zl_cl bb.1 (by omega)]
              show zSim (if c = 1 then if true = true then some (I4 105 bb.1 + I4 142 bb.1, I4) else none else some (nI bb.1 / (2 : Int32), I4)) _
              rw [(hD4 bb.1 (by omega)).1, (v2 bb.1 (by omega)).1, b2, b3, show zov (some x2) + zov (some y2) = nI (x2 + y2) from zl_add x2 y2, ← b4, show nI bb.1 / (2 : Int32) = nI (bb.1 / 2) from zl_div bb.1 2 (by omega) (by omega) (by omega)]
              by_cases h1 : c = 1
              · rw [if_pos h1]
                exact zSim_i rfl (if_pos h1) hR
              · rw [if_neg h1]
                exact zSim_i rfl (if_neg h1) hR
        · simp only [hc, if_true, if_false]
          exact zSim_e (zsim_err h (k := 1) (by omega) (by omega) rfl (by decide))
    · simp only [ha, hb, if_true, z10, if_false]
      rw [hrf]
      exact zSim_e (zsim_err h (k := 1) (by omega) (by omega) rfl (by decide))
  · simp only [ha, if_true, if_false]
    rw [hrf]
    exact zSim_e (zsim_err h (k := 1) (by omega) (by omega) rfl (by decide))
