/-! strolls; numbers that wait against a walk; texts away -/
theorem nI_all (x : Int32) : x = nI x.toBitVec.toNat := by
  apply Int32.toBitVec_inj.mp
  show x.toBitVec = BitVec.ofNat 32 x.toBitVec.toNat
  simp
theorem zush8 (x : Int32) : ∃ k, k < 2 ^ 24 ∧ zush x 8 = nI k := by
  have h := pk_ushr x 8 8 (by decide)
  have h2 : (zush x 8).toBitVec.toNat = x.toBitVec.toNat / 2 ^ 8 := h
  refine ⟨x.toBitVec.toNat / 2 ^ 8, ?_, ?_⟩
  · have := x.toBitVec.isLt
    omega
  · rw [← h2]; exact nI_all _
theorem sim_draw {I J : zI} (h : rR I J) : ∃ (e : Nat) (v : Int32) (I' J' : zI), e < 4 ∧ fc_World_draw I = some (v, I') ∧ v % 4 = nI e ∧ fm_drawn J 4 = some (nI e, J') ∧ rR I' J' ∧ I' 23 0 = I 23 0 := by
  obtain ⟨⟨n, b, a1, a2, a3, a4⟩, ⟨m, b1, b2, b3, b4⟩, e8⟩ := h.1.2.2
  obtain ⟨k, k1, k2⟩ := zush8 (I 1 10 * 1103515245 + 12345)
  have hv : zush (I 1 10 * 1103515245 + 12345) 8 % 4 = nI (k % 4) := by rw [k2, k_4, zl_mod _ _ (by omega) (by omega) (by omega)]
  refine ⟨k % 4, _, _, zup J 1 8 (I 1 10 * 1103515245 + 12345), by omega, rfl, hv, ?_, ?_, zup_o (by omega)⟩
  · unfold fm_drawn
    rw [if_neg (by decide), show (8 : Int32).toNatClampNeg = 8 from by decide, e8, hv]
  · exact rR_P h ⟨⟨n, b, a1, by (unfold zup; repeat (first | rw [if_neg (by omega)] | rw [if_pos (by omega)])); exact a2, by (unfold zup; repeat (first | rw [if_neg (by omega)] | rw [if_pos (by omega)])); exact a3, fun k hk => by (unfold zup; repeat (first | rw [if_neg (by omega)] | rw [if_pos (by omega)])); exact a4 k hk⟩, ⟨m, b1, by (unfold zup; repeat (first | rw [if_neg (by omega)] | rw [if_pos (by omega)])); exact b2, by (unfold zup; repeat (first | rw [if_neg (by omega)] | rw [if_pos (by omega)])); exact b3, fun k hk => by (unfold zup; repeat (first | rw [if_neg (by omega)] | rw [if_pos (by omega)])); exact b4 k hk⟩, by (unfold zup; repeat (first | rw [if_neg (by omega)] | rw [if_pos (by omega)]))⟩ (by intros c k hc; unfold zxrel at hc; unfold zup; repeat rw [if_neg (by omega)]) (by intros; unfold zup; repeat rw [if_neg (by omega)]) (by intros c k hc; unfold mxrel at hc; unfold zup; repeat rw [if_neg (by omega)])
theorem sim_stroll_L {p np' n : Nat} (hp : p < np') (hn' : np' ≤ 6) (hn : n ≤ 60) : ∀ (m k fuel : Nat) (I J : zI), k + m = n → m < fuel → rR I J → I 23 0 = nI np' → zSim (fc_T_stroll_L32 fuel (nI p) (nI n) (nI k) I) (fm_stroll_L28 fuel (nI p) (nI n) (nI k) J)
  | 0, k, fuel, I, J, hk, hf, h, h7 => by
    obtain ⟨g, rfl⟩ : ∃ g, fuel = g + 1 := ⟨fuel - 1, by omega⟩
    rw [fc_T_stroll_L32, fm_stroll_L28, if_pos (nI_le (by omega) (by omega)), if_pos (nI_le (by omega) (by omega)), rR_pl h hp h7 hn', zl_b (by omega), show decide (p < 6) = true from decide_eq_true (by omega), zl_cl p (by omega)]
    exact zSim_i rfl rfl h
  | m + 1, k, fuel, I, J, hk, hf, h, h7 => by
    obtain ⟨g, rfl⟩ : ∃ g, fuel = g + 1 := ⟨fuel - 1, by omega⟩
    obtain ⟨e, v, I1, J1, he, d1, d2, d3, hR, d5⟩ := sim_draw h
    rw [h7] at d5
    obtain ⟨r, I2, J2, s1, s2, hR2, s4⟩ := sim_crosses hR hp d5 hn' he
    rw [fc_T_stroll_L32, fm_stroll_L28, if_neg (nI_ge (by omega) (by omega)), if_neg (nI_ge (by omega) (by omega)), d1, d3]
    simp only [Option.bind_some, d2, s1, s2, nI_1]
    exact sim_stroll_L hp hn' hn m (k + 1) g I2 J2 (by omega) (by omega) hR2 s4
theorem sim_stroll {I J : zI} (h : rR I J) (a b : Int32) : zSim (fc_T_stroll I a b) (fm_stroll J a b) := by
  obtain ⟨⟨⟨ns, nj, cs, ea, eb, tt, nw, kd, bg, sp, mk, eg, np, pl, hr, nt, ly, wo, al, dm, nf, fw, fo, hG, hW, hF, hD⟩, hT, hP⟩, hX⟩ := id h
  obtain ⟨g1, g2, g3⟩ := id hG
  obtain ⟨c1, c2, c3, c4, c5⟩ := id g2
  obtain ⟨m1, m2, m3, m4⟩ := id g3
  have hns := g1.1
  have hnj := g1.2.1
  obtain ⟨f1, f2, f3⟩ := id hF
  have hnp := f1.1
  unfold fc_T_stroll fm_stroll
  rw [c_hasPerson f2.1 hnp, m_is (a := 3) (c := 3) rfl (by omega) f3.1 (by omega), mwi, cwi]
  simp only [Option.bind_some]
  by_cases ha : ∃ k, k < np ∧ a = nI k
  · by_cases hb : 1 ≤ b ∧ b ≤ 60
    · simp only [ha, hb, and_self, if_true, z10, if_false]
      obtain ⟨p, hp, rfl⟩ := ha
      obtain ⟨n, -, hn, rfl⟩ := zl_nat (a := 1) (b := 60) hb (by omega) (by omega)
      exact sim_stroll_L hp hnp hn n 0 100 I J (by omega) (by omega) h f2.1
    · simp only [ha, hb, if_true, z10, if_false]
      exact zSim_e (zsim_err h (k := 1) (by omega) (by omega) rfl (by decide))
  · simp only [ha, if_true, if_false]
    exact zSim_e (zsim_err h (k := 1) (by omega) (by omega) rfl (by decide))
/-- the first that isn't so, of n that wait against the places 0 .. K -/
def zfu (a b : Nat → Int32) (n K : Nat) : Nat → Nat → Option Nat
  | 0, _ => none
  | f + 1, i => if n ≤ i then (if K < n then none else some n) else if K < i then some i else if a i = b i then zfu a b n K f (i + 1) else some i
theorem c_first_L {V : zI} {a b : Nat → Int32} {n K : Nat} (hn : n ≤ 24) (hK : K ≤ 8) (h1 : V 178 1 = nI K) (h2 : ∀ i, i ≤ K → V 179 i = b i) (h3 : ∀ i, i < n → V 46 i = a i) : ∀ (m k fuel f : Nat), k + m = n → m < fuel → m < f → fc_Walker_firstUnlike_L2 V fuel (nI n) (nI k) = some (match zfu a b n K f k with
    | none => -1
    | some i => nI i)
  | 0, k, fuel, f, hk, hf, hf2 => by
    obtain ⟨g, rfl⟩ : ∃ g, fuel = g + 1 := ⟨fuel - 1, by omega⟩
    obtain ⟨g2, rfl⟩ : ∃ g, f = g + 1 := ⟨f - 1, by omega⟩
    rw [fc_Walker_firstUnlike_L2, zfu, if_pos (nI_le (by omega) (by omega)), if_pos (show n ≤ k by omega), h1]
    have ee := nI_ltI (a := K) (b := n) (by omega) (by omega)
    by_cases e : K < n
    · rw [if_pos e, if_pos (ee.mpr e)]
    · rw [if_neg e, if_neg (fun q => e (ee.mp q))]
  | m + 1, k, fuel, f, hk, hf, hf2 => by
    obtain ⟨g, rfl⟩ : ∃ g, fuel = g + 1 := ⟨fuel - 1, by omega⟩
    obtain ⟨g2, rfl⟩ : ∃ g, f = g + 1 := ⟨f - 1, by omega⟩
    rw [fc_Walker_firstUnlike_L2, zfu, if_neg (nI_ge (by omega) (by omega)), if_neg (show ¬ n ≤ k by omega), h1]
    have ee := nI_ltI (a := K) (b := k) (by omega) (by omega)
    by_cases e : K < k
    · rw [if_pos e, if_pos (ee.mpr e)]
    · rw [if_neg e, if_neg (fun q => e (ee.mp q)), zl_b (by omega), zl_b (by omega), show decide (k < 24) = true from decide_eq_true (by omega), show decide (k < 9) = true from decide_eq_true (by omega), zl_cl k (by omega), h2 k (by omega), h3 k (by omega)]
      simp only [z_guard, if_true]
      by_cases e2 : a k = b k
      · rw [if_pos e2, if_pos e2, nI_1]
        exact c_first_L hn hK h1 h2 h3 m (k + 1) g g2 (by omega) (by omega) (by omega)
      · rw [if_neg e2, if_neg e2]
theorem m_check_L {J : zI} {ns nw : Nat} {T : Nat → Nat → Option (Nat × Nat)} {kd bg sp : Nat → Nat} {mk : Nat → Int32} {eg : Nat → Nat → Nat} (hT : wT ns T) (hM : mT J ns T) (g1 : wfW ns nw kd bg sp mk eg) (g2 : wM (J 1) nw kd bg sp mk eg) {w p n : Nat} {a : Nat → Int32} (hw : w < nw) (hp : p < 2 * ns) (hn : n ≤ 24) (hz : ¬ zpl T (eg w) p (sp w) = none) (ha : ∀ i, i < n → J 1 (300 + i) = a i) : ∀ (m k fuel f : Nat) (V : zI), k + m = sp w + 1 → k ≤ n → m < fuel → n - k < f → (∀ c j, c ≠ 7 → c ≠ 8 → ¬ (c = 0 ∧ 14 ≤ j ∧ j ≤ 15) → V c j = J c j) → ∃ V', fm_check_L70 fuel (nI w) (nI n) (nI (zpv T (eg w) p (if k ≤ sp w then k else sp w))) (nI (sp w + 1)) (nI k) V = some (match zfu a (fun i => nI (zpv T (eg w) p i)) n (sp w) f k with
    | none => 0
    | some i => nI (1 + i), V') ∧ ∀ c j, c ≠ 7 → c ≠ 8 → ¬ (c = 0 ∧ 14 ≤ j ∧ j ≤ 15) → V' c j = J c j := by
  have hns := hT.1
  have hnw := g1.1
  obtain ⟨a1, a2, a3, a4, a5⟩ := g1.2 w hw
  obtain ⟨b1, b2, b3, b4, b5⟩ := g2.2 w hw
  intro m
  induction m with
  | zero =>
    intro k fuel f V hk hkn hf hf2 hV
    obtain ⟨g, rfl⟩ : ∃ g, fuel = g + 1 := ⟨fuel - 1, by omega⟩
    obtain ⟨g2, rfl⟩ : ∃ g, f = g + 1 := ⟨f - 1, by omega⟩
    rw [fm_check_L70, zfu, if_pos (nI_le (by omega) (by omega))]
    have ee := nI_eq (a := n) (b := sp w + 1) (by omega) (by omega)
    by_cases e : n = sp w + 1
    · rw [if_pos (ee.mpr e), if_pos (show n ≤ k by omega), if_pos (show sp w < n by omega)]
      exact ⟨V, rfl, hV⟩
    · rw [if_neg (fun q => e (ee.mp q)), if_neg (show ¬ n ≤ k by omega), if_pos (show sp w < k by omega), k_1, zl_add]
      exact ⟨V, by rw [show k = sp w + 1 by omega], hV⟩
  | succ m ih =>
    intro k fuel f V hk hkn hf hf2 hV
    obtain ⟨g, rfl⟩ : ∃ g, fuel = g + 1 := ⟨fuel - 1, by omega⟩
    obtain ⟨g2, rfl⟩ : ∃ g, f = g + 1 := ⟨f - 1, by omega⟩
    rw [fm_check_L70, zfu, if_neg (nI_ge (by omega) (by omega)), if_pos (show k ≤ sp w by omega)]
    have ee := nI_leI (a := n) (b := k) (by omega) (by omega)
    by_cases e : n ≤ k
    · rw [if_pos e, if_pos (ee.mpr e), if_neg (show ¬ sp w < n by omega), k_1, zl_add]
      exact ⟨V, by rw [show k = n by omega], hV⟩
    · rw [if_neg e, if_neg (fun q => e (ee.mp q)), if_neg (show ¬ sp w < k by omega), k_300, zl_add, zl_b (by omega), show decide (300 + k < 448) = true from decide_eq_true (by omega), zl_cl _ (by omega), hV 1 _ (by omega) (by omega) (by omega), ha k (by omega)]
      simp only [z_guard, if_true]
      by_cases e2 : a k = nI (zpv T (eg w) p k)
      · rw [if_pos e2, if_pos e2, nI_pred, nI_1]
        have e3 := nI_leI (a := sp w) (b := k) (by omega) (by omega)
        by_cases e4 : sp w ≤ k
        · rw [if_pos (e3.mpr e4)]
          have := ih (k + 1) g g2 V (by omega) (by omega) (by omega) (by omega) hV
          rw [if_neg (by omega), show sp w = k by omega] at this
          rw [show sp w = k by omega]
          exact this
        · rw [if_neg (fun q => e4 (e3.mp q)), k_4, zl_add, m_walkOf (by omega) (by omega), hV 1 _ (by omega) (by omega) (by omega), show 66 + 12 * w + (4 + k) = 66 + 12 * w + 4 + k by omega, b5 k (by omega)]
          simp only [Option.bind_some]
          obtain ⟨q, hq⟩ : ∃ q, zpl T (eg w) p (k + 1) = some q := by
            cases h : zpl T (eg w) p (k + 1) with
            | none =>
              have := zpl_none h (sp w - (k + 1))
              rw [show k + 1 + (sp w - (k + 1)) = sp w by omega] at this
              exact absurd this hz
            | some q => exact ⟨q, rfl⟩
          have hlt := zpv_lt hT a5 hp (show k ≤ sp w by omega)
          obtain ⟨V2, r1, r2, r3, r4⟩ := hM.2 V (fun j hj => hV 1 j (by omega) (by omega) (by omega)) (zpv T (eg w) p k) (eg w k) hlt (a5 k (by omega))
          rw [r1]
          have hstep : ∃ r, T (zpv T (eg w) p k) (eg w k) = some r ∧ r.1 = zpv T (eg w) p (k + 1) := by
            have hq2 := hq
            rw [zpl] at hq2
            unfold zpv
            cases h0 : zpl T (eg w) p k with
            | none => rw [h0] at hq2; cases hq2
            | some x =>
              rw [h0] at hq2
              cases h1 : T x (eg w k) with
              | none => simp only [Option.bind_some, h1, Option.map_none] at hq2; cases hq2
              | some r =>
                simp only [Option.bind_some, h1, Option.map_some] at hq2
                refine ⟨r, h1, ?_⟩
                rw [hq]
                cases hq2; rfl
          obtain ⟨r, hr1, hr2⟩ := hstep
          simp only [hr1, Option.bind_some, z10, if_false, (r2 r hr1).1, hr2]
          have := ih (k + 1) g g2 V2 (by omega) (by omega) (by omega) (by omega) (fun c j h1 h2 h3 => by rw [r4 c j h1 h2 (by omega)]; exact hV c j h1 h2 h3)
          rw [if_pos (by omega)] at this
          exact this
      · rw [if_neg e2, if_neg e2, k_1, zl_add]
        exact ⟨V, rfl, hV⟩
theorem sim_check {I J : zI} (h : rR I J) (a : Int32) : zSim (fc_T_check I a) (fm_check J a) := by
  obtain ⟨⟨n1, b, a1, a2, a3, a4⟩, ⟨n, b1, b2, b3, b4⟩, e8⟩ := h.1.2.2
  have c24 : ∀ i, i < n → I 46 i = I 46 i := fun _ _ => rfl
  have h0 : rR (zup I 1 9 0) (zup J 1 7 0) := rR_P h ⟨⟨n1, b, a1, by (unfold zup; repeat (first | rw [if_neg (by omega)] | rw [if_pos (by omega)])); exact a2, by (unfold zup; repeat (first | rw [if_neg (by omega)] | rw [if_pos (by omega)])); exact a3, fun k hk => by (unfold zup; repeat (first | rw [if_neg (by omega)] | rw [if_pos (by omega)])); exact a4 k hk⟩, ⟨0, by omega, by (unfold zup; repeat (first | rw [if_neg (by omega)] | rw [if_pos (by omega)])); rfl, by (unfold zup; repeat (first | rw [if_neg (by omega)] | rw [if_pos (by omega)])); rfl, fun k hk => by omega⟩, by (unfold zup; repeat (first | rw [if_neg (by omega)] | rw [if_pos (by omega)])); exact e8⟩ (by intros c k hc; unfold zxrel at hc; unfold zup; repeat rw [if_neg (by omega)]) (by intros; unfold zup; repeat rw [if_neg (by omega)]) (by intros c k hc; unfold mxrel at hc; unfold zup; repeat rw [if_neg (by omega)])
  have wt : ∀ i, i < n → zup J 1 7 0 1 (300 + i) = I 46 i := fun i hi => by (unfold zup; repeat (first | rw [if_neg (by omega)] | rw [if_pos (by omega)])); exact b4 i hi
  have wu : ∀ i, zup I 1 9 0 46 i = I 46 i := fun i => by (unfold zup; repeat (first | rw [if_neg (by omega)] | rw [if_pos (by omega)]))
  unfold fc_T_check fm_check
  rw [show (7 : Int32).toNatClampNeg = 7 from by decide, b2, b3]
  generalize zup I 1 9 0 = I0 at h0 wu
  generalize zup J 1 7 0 = J0 at h0 wt
  generalize I 46 = A at wt wu
  clear h
  have h := h0
  clear h0 b4 e8 a2 a3 a4 b2 b3 c24
  clear I J
  obtain ⟨I, hI⟩ : ∃ I, I = I0 := ⟨I0, rfl⟩
  obtain ⟨J, hJ⟩ : ∃ J, J = J0 := ⟨J0, rfl⟩
  subst hI hJ
  obtain ⟨⟨⟨ns, nj, cs, ea, eb, tt, nw, kd, bg, sp, mk, eg, np, pl, hr, nt, ly, wo, al, dm, nf, fw, fo, hG, hW, hF, hD⟩, hT, hP⟩, hX⟩ := id h
  obtain ⟨g1, g2, g3⟩ := id hG
  obtain ⟨c1, c2, c3, c4, c5⟩ := id g2
  obtain ⟨m1, m2, m3, m4⟩ := id g3
  have hns := g1.1
  have hnj := g1.2.1
  obtain ⟨t, t1, t2, t3⟩ := id hT.1
  have hWT := mk_wT g1 t
  have hC := mk_cT g1 g2 t1 t2
  have hM := mk_mT g1 g3 t1 t3
  generalize zcr nj cs ea eb tt t = T at hWT hC hM
  obtain ⟨w1, w2, w3⟩ := id hW
  have hnw := w1.1
  rw [c_hasWalk w2.1 hnw, m_is (a := 2) (c := 2) rfl (by omega) w3.1 (by omega)]
  simp only [Option.bind_some]
  by_cases ha : ∃ k, k < nw ∧ a = nI k
  · simp only [ha, if_true, z10, if_false]
    obtain ⟨w, hw, rfl⟩ := ha
    obtain ⟨a1, a2, a3, a4, a5⟩ := w1.2 w hw
    obtain ⟨d1, d2, d3, d4, d5⟩ := w3.2 w hw
    obtain ⟨I1, i1, i2, i3, i4⟩ := c_goes hWT hC w1 w2 hw (show 0 < 2 by omega)
    obtain ⟨J1, j1, j2, j3, j4, j5, j6, j7⟩ := m_goes hWT hM w1 w3 hw (show 0 < 2 by omega)
    have hR : rR I1 J1 := rR_cg h (fun c k hc => i4 c k (by unfold zwrel zxrel at hc; omega) (by unfold zwrel zxrel at hc; omega)) (fun k hk => j7 1 k (by omega) (by omega) (by omega)) (fun c k hc => by unfold mxrel at hc; exact j7 c k (by omega) (by omega) (by omega))
    rw [show fc_Walker_goes I (nI w) 0 = _ from i1, show fm_goes J (nI w) 0 = _ from j1]
    simp only [Option.bind_some]
    by_cases hz : zpl T (eg w) (2 * bg w + 0) (sp w) = none
    · simp only [hz, if_true]
      have h := hR
      exact zSim_e (zsim_err h (k := 3) (by omega) (by omega) rfl (by decide))
    · simp only [hz, if_false, z10]
      have hK := zgk_full.mpr hz
      rw [hK] at i2 i3
      have u1 : fc_Walker_firstUnlike I1 (nI n) = _ := c_first_L (a := A) (b := fun i => nI (zpv T (eg w) (2 * bg w + 0) i)) (K := sp w) b1 a3 i2 i3 (fun i hi => by rw [i4 46 i (by omega) (by omega)]; exact wu i) n 0 100 (n + 1) (by omega) (by omega) (by omega)
      obtain ⟨J2, v1, v2⟩ := m_check_L (J := J1) (w := w) (p := 2 * bg w + 0) (n := n) (a := A) hWT (mT_cg hM (fun k hk => j7 1 k (by omega) (by omega) (by omega))) w1 (wM_cg hnw (fun w hw => (w1.2 w hw).2.2.1) w3 (fun k hk => j7 1 k (by omega) (by omega) (by omega))) hw (by omega) b1 hz (fun i hi => by rw [j7 1 _ (by omega) (by omega) (by omega)]; exact wt i hi) (sp w + 1) 0 100 (n + 1) J1 (by omega) (by omega) (by omega) (by omega) (fun _ _ _ _ _ => rfl)
      have wo1 : fm_walkOf J1 (nI w) 1 = some (nI (bg w)) := by rw [k_1, m_walkOf (by omega) (by omega), j7 1 _ (by omega) (by omega) (by omega), d2]
      have wo2 : fm_walkOf J1 (nI w) 2 = some (nI (sp w)) := by rw [k_2, m_walkOf (by omega) (by omega), j7 1 _ (by omega) (by omega) (by omega), d3]
      have l1 : nI (zpv T (eg w) (2 * bg w + 0) (if 0 ≤ sp w then 0 else sp w)) = 2 * nI (bg w) := by rw [if_pos (Nat.zero_le _), k_2, zl_mul]; rfl
      have l2 : nI (sp w + 1) = 1 + nI (sp w) := by rw [k_1, zl_add, Nat.add_comm]
      rw [l1, l2] at v1
      rw [u1, wo1, wo2]
      simp only [Option.bind_some]
      rw [show fm_check_L70 100 (nI w) (nI n) (2 * nI (bg w)) (1 + nI (sp w)) 0 J1 = _ from v1]
      have hR2 : rR I1 J2 := rR_cg hR (fun _ _ _ => rfl) (fun k hk => v2 1 k (by omega) (by omega) (by omega)) (fun c k hc => by unfold mxrel at hc; exact v2 c k (by omega) (by omega) (by omega))
      cases hu : zfu A (fun i => nI (zpv T (eg w) (2 * bg w + 0) i)) n (sp w) (n + 1) 0 with
      | none =>
        simp only [show ¬ (0 : Int32) ≤ -1 by decide, if_false]
        exact zSim_i rfl rfl hR2
      | some i =>
        have hi : i ≤ 24 := by
          have : ∀ f k, k ≤ n → ∀ i, zfu A (fun i => nI (zpv T (eg w) (2 * bg w + 0) i)) n (sp w) f k = some i → i ≤ n := by
            intro f
            induction f with
            | zero => intro k hk i hi; cases hi
            | succ f ih =>
              intro k hk i hi
              rw [zfu] at hi
              by_cases q1 : n ≤ k
              · rw [if_pos q1] at hi
                by_cases q2 : sp w < n
                · rw [if_pos q2] at hi; cases hi
                · rw [if_neg q2] at hi; cases hi; omega
              · rw [if_neg q1] at hi
                by_cases q2 : sp w < k
                · rw [if_pos q2] at hi; cases hi; omega
                · rw [if_neg q2] at hi
                  split at hi
                  · exact ih (k + 1) (by omega) i hi
                  · cases hi; omega
          have := this (n + 1) 0 (by omega) i hu
          omega
        simp only [show (0 : Int32) ≤ nI i from nI_pos' (by omega), if_true]
        exact zSim_i rfl (by rw [k_1, zl_add]) hR2
  · simp only [ha, if_true, if_false]
    exact zSim_e (zsim_err h (k := 1) (by omega) (by omega) rfl (by decide))
