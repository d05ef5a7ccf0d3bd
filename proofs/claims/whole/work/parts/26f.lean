/-! walk -/
def zdg (a n i : Nat) : Nat := a / 10 ^ (n - 1 - i) % 10 - 1
theorem zdg_step {a n i : Nat} (h : i < n) : zdg (a / 10) n i = zdg a (n + 1) i := by
  unfold zdg
  rw [Nat.div_div_eq_div_mul, show n + 1 - 1 - i = (n - 1 - i) + 1 by omega, Nat.pow_succ, Nat.mul_comm]
theorem zl_m1n (n : Nat) : nI n + -1 = nI n - 1 := by
  rw [Int32.sub_eq_add_neg]
theorem c_add_L {nw : Nat} (hnw : nw < 10) : ∀ (n fuel a : Nat) (V : zI), n ≤ 8 → n < fuel → a < 2 ^ 31 → (∀ i, i < n → 1 ≤ a / 10 ^ i % 10) → V 7 0 = nI nw → ∃ V', fc_Walks_add_L59 fuel (nI a) (nI n - 1) V = some (nI nw, V') ∧ V' 7 0 = nI (nw + 1) ∧ (∀ i, i < n → V' (13 + nw) i = nI (zdg a n i)) ∧ ∀ c j, ¬ (c = 7 ∧ j = 0) → ¬ (c = 13 + nw ∧ j < n) → V' c j = V c j
  | 0, fuel, a, V, h8, hf, ha, hd, h7 => by
    obtain ⟨g, rfl⟩ : ∃ g, fuel = g + 1 := ⟨fuel - 1, by omega⟩
    rw [fc_Walks_add_L59, if_pos (show nI 0 - 1 < 0 by decide), h7, nI_1]
    exact ⟨_, rfl, zup_y, fun i hi => by omega, fun c j h1 h2 => zup_o (by omega)⟩
  | n + 1, fuel, a, V, h8, hf, ha, hd, h7 => by
    obtain ⟨g, rfl⟩ : ∃ g, fuel = g + 1 := ⟨fuel - 1, by omega⟩
    rw [fc_Walks_add_L59, nI_pred, if_neg (nI_pos (by omega)), h7, zl_m1n, zl_b (by omega), zl_b (by omega), show decide (nw < 10) = true from decide_eq_true hnw, show decide (n < 8) = true from decide_eq_true (by omega), zl_cl nw (by omega), zl_cl n (by omega), k_10, zl_mod _ _ ha (by omega) (by omega), zl_div _ _ ha (by omega) (by omega)]
    have h1 := hd 0 (by omega)
    rw [Nat.pow_zero, Nat.div_one] at h1
    have e1 : nI (a % 10) - 1 = nI (a % 10 - 1) := zl_sub1 (by omega)
    rw [e1]
    simp only [z_guard, if_true]
    obtain ⟨V', r1, r2, r3, r4⟩ := c_add_L hnw n g (a / 10) (zup V (13 + nw) n (nI (a % 10 - 1))) (by omega) (by omega) (by omega) (fun i hi => by
      have := hd (i + 1) (by omega)
      rw [Nat.pow_succ, Nat.mul_comm, ← Nat.div_div_eq_div_mul] at this
      exact this) (by (unfold zup; repeat (first | rw [if_neg (by omega)] | rw [if_pos (by omega)])); exact h7)
    refine ⟨V', r1, r2, fun i hi => ?_, fun c j q1 q2 => ?_⟩
    · by_cases hi2 : i = n
      · subst hi2
        rw [r4 _ _ (by omega) (by omega), zup_y]
        unfold zdg
        rw [show i + 1 - 1 - i = 0 by omega, Nat.pow_zero, Nat.div_one]
      · rw [r3 i (by omega), zdg_step (by omega)]
    · rw [r4 c j q1 (by omega), zup_o (by omega)]
theorem m_add_L {nw : Nat} (hnw : nw < 10) : ∀ (n fuel a : Nat) (V : zI), n ≤ 8 → n < fuel → a < 2 ^ 31 → (∀ i, i < n → 1 ≤ a / 10 ^ i % 10) → V 1 2 = nI nw → ∃ V', fm_walk_L180 fuel (nI nw) (nI (66 + 12 * nw)) (nI a) (nI n - 1) V = some (nI nw, V') ∧ V' 1 2 = nI (nw + 1) ∧ (∀ i, i < n → V' 1 (66 + 12 * nw + 4 + i) = nI (zdg a n i)) ∧ ∀ c j, ¬ (c = 1 ∧ j = 2) → ¬ (c = 1 ∧ 66 + 12 * nw + 4 ≤ j ∧ j < 66 + 12 * nw + 4 + n) → V' c j = V c j
  | 0, fuel, a, V, h8, hf, ha, hd, h7 => by
    obtain ⟨g, rfl⟩ : ∃ g, fuel = g + 1 := ⟨fuel - 1, by omega⟩
    rw [fm_walk_L180, if_pos (show nI 0 - 1 < 0 by decide), show (2 : Int32).toNatClampNeg = 2 from by decide, h7, nI_1]
    exact ⟨_, rfl, zup_y, fun i hi => by omega, fun c j h1 h2 => zup_o (by omega)⟩
  | n + 1, fuel, a, V, h8, hf, ha, hd, h7 => by
    obtain ⟨g, rfl⟩ : ∃ g, fuel = g + 1 := ⟨fuel - 1, by omega⟩
    rw [fm_walk_L180, nI_pred, if_neg (nI_pos (by omega)), zl_m1n, k_4, zl_add, zl_add, zl_b (by omega), show decide (66 + 12 * nw + 4 + n < 448) = true from decide_eq_true (by omega), zl_cl _ (by omega), k_10, zl_mod _ _ ha (by omega) (by omega), zl_div _ _ ha (by omega) (by omega)]
    have h1 := hd 0 (by omega)
    rw [Nat.pow_zero, Nat.div_one] at h1
    have e1 : nI (a % 10) - 1 = nI (a % 10 - 1) := zl_sub1 (by omega)
    rw [e1]
    simp only [z_guard, if_true]
    obtain ⟨V', r1, r2, r3, r4⟩ := m_add_L hnw n g (a / 10) (zup V 1 (66 + 12 * nw + 4 + n) (nI (a % 10 - 1))) (by omega) (by omega) (by omega) (fun i hi => by
      have := hd (i + 1) (by omega)
      rw [Nat.pow_succ, Nat.mul_comm, ← Nat.div_div_eq_div_mul] at this
      exact this) (by (unfold zup; repeat (first | rw [if_neg (by omega)] | rw [if_pos (by omega)])); exact h7)
    refine ⟨V', r1, r2, fun i hi => ?_, fun c j q1 q2 => ?_⟩
    · by_cases hi2 : i = n
      · subst hi2
        rw [r4 _ _ (by omega) (by omega), zup_y]
        unfold zdg
        rw [show i + 1 - 1 - i = 0 by omega, Nat.pow_zero, Nat.div_one]
      · rw [r3 i (by omega), zdg_step (by omega)]
    · rw [r4 c j q1 (by omega), zup_o (by omega)]
/-- where the reference stands behind its reading of the number -/
theorem m_walk_L {J : zI} (v1 v2 v3 : Int32) : ∀ (f fuel k a : Nat) (ok : Bool), a < 10 ^ f → f < fuel → k + f < 100 → a < 2 ^ 31 → ∃ g, g < fuel ∧ fm_walk_L17 fuel v1 v2 v3 (nI k) (if ok then 1 else 0) (nI a) J = fm_walk_L17 (g + 1) v1 v2 v3 (nI (k + (zdm f a).1)) (if (ok && (zdm f a).2) then 1 else 0) 0 J
  | 0, fuel, k, a, ok, h1, h2, h3, h4 => by
    obtain ⟨g, rfl⟩ : ∃ g, fuel = g + 1 := ⟨fuel - 1, by omega⟩
    have : a = 0 := by omega
    subst this
    exact ⟨g, by omega, by rw [zdm, Bool.and_true]; rfl⟩
  | f + 1, fuel, k, a, ok, h1, h2, h3, h4 => by
    obtain ⟨g, rfl⟩ : ∃ g, fuel = g + 1 := ⟨fuel - 1, by omega⟩
    rw [zdm]
    by_cases ha : a = 0
    · subst ha
      exact ⟨g, by omega, by rw [if_pos rfl, Bool.and_true]; rfl⟩
    · rw [if_neg ha]
      have key : fm_walk_L17 (g + 1) v1 v2 v3 (nI k) (if ok then 1 else 0) (nI a) J = fm_walk_L17 g v1 v2 v3 (nI (k + 1)) (if (ok && decide (1 ≤ a % 10 ∧ a % 10 ≤ 4)) then 1 else 0) (nI (a / 10)) J := by
        rw [fm_walk_L17, if_neg (nI_nle (by omega) h4), k_10, zl_mod _ _ h4 (by omega) (by omega), zl_div _ _ h4 (by omega) (by omega), mwi, nI_1]
        have e2 : ((1 : Int32) ≤ nI (a % 10) ∧ nI (a % 10) ≤ 4) ↔ (1 ≤ a % 10 ∧ a % 10 ≤ 4) := and_congr (nI_leI (a := 1) (by omega) (by omega)) (nI_leI (b := 4) (by omega) (by omega))
        cases ok with
        | false => simp
        | true =>
          simp only [if_true, z10, if_false, e2, Option.bind_some, Bool.true_and]
          by_cases hd : 1 ≤ a % 10 ∧ a % 10 ≤ 4
          · simp [hd]
          · simp [hd]
      rw [key]
      obtain ⟨g2, q1, q2⟩ := m_walk_L (J := J) v1 v2 v3 f g (k + 1) (a / 10) (ok && decide (1 ≤ a % 10 ∧ a % 10 ≤ 4)) (by rw [Nat.pow_succ] at h1; omega) (by omega) (by omega) (by omega)
      refine ⟨g2, by omega, ?_⟩
      rw [q2, show k + 1 + (zdm f (a / 10)).1 = k + ((zdm f (a / 10)).1 + 1) by omega, Bool.and_assoc, Bool.and_comm (decide _)]
theorem sim_walk {I J : zI} (h : rR I J) (a b c : Int32) : zSim (fc_T_walk I a b c) (fm_walk J a b c) := by
  obtain ⟨⟨⟨ns, nj, cs, ea, eb, tt, nw, kd, bg, sp, mk, eg, np, pl, hr, nt, ly, wo, al, dm, nf, fw, fo, hG, hW, hF, hD⟩, hT, hP⟩, hX⟩ := id h
  obtain ⟨g1, g2, g3⟩ := id hG
  obtain ⟨c1, c2, c3, c4, c5⟩ := id g2
  obtain ⟨m1, m2, m3, m4⟩ := id g3
  have hns := g1.1
  have hnj := g1.2.1
  obtain ⟨w1, w2, w3⟩ := id hW
  have hnw := w1.1
  have hm : ∃ g n ok, fm_walk J a b c = fm_walk_L17 (g + 1) a b c (nI n) (if ok then 1 else 0) 0 J ∧ n ≤ 10 ∧ (if c < 0 then none else zdn 8 c.toNatClampNeg) = if ok = true ∧ n ≤ 8 then some n else none := by
    unfold fm_walk fm_walk_J12
    by_cases hc : c < 0
    · rw [if_pos hc, if_pos hc]
      refine ⟨99, 0, false, ?_, by omega, by simp⟩
      have e1 : c ≤ 0 := by grind
      have e2 : (0 : Int32) ≤ 0 := by decide
      rw [fm_walk_L17, if_pos e1, fm_walk_L17, if_pos e2]; rfl
    · rw [if_neg hc, if_neg hc]
      obtain ⟨j, hj, rfl⟩ := nI_of hc
      obtain ⟨g, q1, q2⟩ := m_walk_L (J := J) a b (nI j) 10 100 0 j true (by omega) (by omega) (by omega) hj
      refine ⟨g, (zdm 10 j).1, (zdm 10 j).2, ?_, zdm_le 10 j, ?_⟩
      · rw [Bool.true_and, Nat.zero_add] at q2
        exact q2
      · rw [nI_clamp hj]
        exact zdn_zdm 10 8 j (by omega)
  obtain ⟨g, n, ok, m1', m2', m3'⟩ := hm
  rw [m1']
  unfold fc_T_walk
  rw [fm_walk_L17, c_steps, m3', cwi, mwi, c_hasSquare c1 hns, m_is (a := 0) (c := 0) rfl (by omega) m1 (by omega), if_pos (show (0 : Int32) ≤ 0 by decide)]
  simp only [Option.bind_some]
  by_cases ha : 0 ≤ a ∧ a ≤ 6
  · by_cases hb : ∃ k, k < ns ∧ b = nI k
    · simp only [ha, hb, and_self, if_true, z10, if_false]
      by_cases hok : ok = true
      · by_cases hn8 : n ≤ 8
        · have e8 : nI n ≤ (8 : Int32) := nI_le (b := 8) hn8 (by omega)
          have e0 : (0 : Int32) ≤ nI (0 + n) := nI_pos' (by omega)
          simp only [hok, hn8, e8, e0, and_self, if_true, z10, if_false, zdv]
          rw [show (2 : Int32).toNatClampNeg = 2 from by decide, w2.1, w3.1]
          by_cases h10 : nw = 10
          · have f1 : ¬ nI nw < 10 := by rw [h10]; decide
            have f2 : nI nw = 10 := by rw [h10]; rfl
            simp only [f1, f2, if_true, if_false]
            exact zSim_e (zsim_err h (k := 4) (by omega) (by omega) rfl (by decide))
          · have f1 : nI nw < 10 := nI_lt (b := 10) (by omega) (by omega)
            have f2 : ¬ nI nw = 10 := fun e => h10 ((nI_eq (b := 10) (by omega) (by omega)).mp e)
            simp only [f1, f2, if_true, if_false]
            have hc : ¬ c < 0 := fun hc => by
              rw [if_pos hc, if_pos ⟨hok, hn8⟩] at m3'
              cases m3'
            rw [if_neg hc, if_pos ⟨hok, hn8⟩] at m3'
            obtain ⟨j, hj, rfl⟩ := nI_of hc
            rw [nI_clamp hj] at m3'
            have hdig := zdn_dig m3'
            obtain ⟨x, -, hx2, rfl⟩ := zl_nat (a := 0) (b := 6) ha (by omega) (by omega)
            obtain ⟨y, hy, rfl⟩ := hb
            unfold fc_Walks_add
            rw [w2.1, c_steps, if_neg hc, nI_clamp hj, m3']
            simp only [zdv, Nat.zero_add]
            simp (disch := omega) only [k_66, k_12, k_0, k_1, k_2, k_3, zl_mul, zl_add, zl_b, show 66 + 12 * nw + 0 < 448 by omega, show 66 + 12 * nw + 1 < 448 by omega, show 66 + 12 * nw + 2 < 448 by omega, show 66 + 12 * nw + 3 < 448 by omega, show nw < 10 by omega, decide_true, z_guard, if_true, zl_cl, Option.bind_some]
            obtain ⟨I', r1, r2, r3, r4⟩ := c_add_L (nw := nw) (by omega) n 100 j (zup (zup (zup (zup I 8 nw (nI x)) 9 nw (nI y)) 10 nw (nI n)) 11 nw (-nI 1)) hn8 (by omega) hj (fun i hi => (hdig i hi).1) (by (unfold zup; repeat (first | rw [if_neg (by omega)] | rw [if_pos (by omega)])); exact w2.1)
            obtain ⟨J', s1, s2, s3, s4⟩ := m_add_L (nw := nw) (by omega) n 100 j (zup (zup (zup (zup J 1 (66 + 12 * nw + 0) (nI x)) 1 (66 + 12 * nw + 1) (nI y)) 1 (66 + 12 * nw + 2) (nI n)) 1 (66 + 12 * nw + 3) (-nI 1)) hn8 (by omega) hj (fun i hi => (hdig i hi).1) (by (unfold zup; repeat (first | rw [if_neg (by omega)] | rw [if_pos (by omega)])); exact w3.1)
            rw [show (nI n - nI 1) = nI n - 1 from rfl, r1, s1]
            simp only [Option.bind_some]
            refine zSim_i rfl rfl (rR_L hT hP hX ⟨ns, nj, cs, ea, eb, tt, nw + 1, vup kd nw x, vup bg nw y, vup sp nw n, vup mk nw (-1), vup eg nw (zdg j n), np, pl, hr, nt, ly, wo, al, dm, nf, fw, fo, keepG hG (fun c k _ _ => by rw [r4 c k (by omega) (by omega)]; (unfold zup; repeat (first | rw [if_neg (by omega)] | rw [if_pos (by omega)]))) (fun k hk => by rw [s4 1 k (by omega) (by omega)]; (unfold zup; repeat (first | rw [if_neg (by omega)] | rw [if_pos (by omega)]))), ⟨⟨by omega, fun v hv => ?_⟩, ⟨r2, fun v hv => ?_⟩, ⟨s2, fun v hv => ?_⟩⟩, keepF hF (by omega) (fun c k _ _ => by rw [r4 c k (by omega) (by omega)]; (unfold zup; repeat (first | rw [if_neg (by omega)] | rw [if_pos (by omega)]))) (fun k hk => by rw [s4 1 k (by omega) (by omega)]; (unfold zup; repeat (first | rw [if_neg (by omega)] | rw [if_pos (by omega)]))), keepD hD (Nat.le_refl _) (by omega) (fun c k _ => by rw [r4 c k (by omega) (by omega)]; (unfold zup; repeat (first | rw [if_neg (by omega)] | rw [if_pos (by omega)]))) (fun k hk => by rw [s4 1 k (by omega) (by omega)]; (unfold zup; repeat (first | rw [if_neg (by omega)] | rw [if_pos (by omega)])))⟩ (fun c k hc => by unfold zxrel at hc; rw [r4 c k (by omega) (by omega)]; (unfold zup; repeat (first | rw [if_neg (by omega)] | rw [if_pos (by omega)]))) (fun k hk => by rw [s4 1 k (by omega) (by omega)]; (unfold zup; repeat (first | rw [if_neg (by omega)] | rw [if_pos (by omega)]))) (fun c k hc => by unfold mxrel at hc; rw [s4 c k (by omega) (by omega)]; (unfold zup; repeat (first | rw [if_neg (by omega)] | rw [if_pos (by omega)]))))
            · by_cases hv2 : v = nw
              · subst hv2
                rw [vup_s, vup_s, vup_s, vup_s, vup_s]
                refine ⟨by omega, hy, hn8, by decide, fun k hk => ?_⟩
                have := hdig (n - 1 - k) (by omega)
                unfold zdg
                omega
              · rw [vup_n hv2, vup_n hv2, vup_n hv2, vup_n hv2, vup_n hv2]
                exact w1.2 v (by omega)
            · by_cases hv2 : v = nw
              · subst hv2
                rw [vup_s, vup_s, vup_s, vup_s, vup_s]
                refine ⟨by rw [r4 _ _ (by omega) (by omega)]; (unfold zup; repeat (first | rw [if_neg (by omega)] | rw [if_pos (by omega)])), by rw [r4 _ _ (by omega) (by omega)]; (unfold zup; repeat (first | rw [if_neg (by omega)] | rw [if_pos (by omega)])), by rw [r4 _ _ (by omega) (by omega)]; (unfold zup; repeat (first | rw [if_neg (by omega)] | rw [if_pos (by omega)])), by rw [r4 _ _ (by omega) (by omega)]; (unfold zup; repeat (first | rw [if_neg (by omega)] | rw [if_pos (by omega)])); rfl, fun k hk => r3 k hk⟩
              · rw [vup_n hv2, vup_n hv2, vup_n hv2, vup_n hv2, vup_n hv2]
                obtain ⟨q1, q2, q3, q4, q5⟩ := w2.2 v (by omega)
                refine ⟨by rw [r4 _ _ (by omega) (by omega)]; (unfold zup; repeat (first | rw [if_neg (by omega)] | rw [if_pos (by omega)])); exact q1, by rw [r4 _ _ (by omega) (by omega)]; (unfold zup; repeat (first | rw [if_neg (by omega)] | rw [if_pos (by omega)])); exact q2, by rw [r4 _ _ (by omega) (by omega)]; (unfold zup; repeat (first | rw [if_neg (by omega)] | rw [if_pos (by omega)])); exact q3, by rw [r4 _ _ (by omega) (by omega)]; (unfold zup; repeat (first | rw [if_neg (by omega)] | rw [if_pos (by omega)])); exact q4, fun k hk => by rw [r4 _ _ (by omega) (by omega)]; (unfold zup; repeat (first | rw [if_neg (by omega)] | rw [if_pos (by omega)])); exact q5 k hk⟩
            · by_cases hv2 : v = nw
              · subst hv2
                rw [vup_s, vup_s, vup_s, vup_s, vup_s]
                refine ⟨by rw [s4 _ _ (by omega) (by omega)]; (unfold zup; repeat (first | rw [if_neg (by omega)] | rw [if_pos (by omega)])), by rw [s4 _ _ (by omega) (by omega)]; (unfold zup; repeat (first | rw [if_neg (by omega)] | rw [if_pos (by omega)])), by rw [s4 _ _ (by omega) (by omega)]; (unfold zup; repeat (first | rw [if_neg (by omega)] | rw [if_pos (by omega)])), by rw [s4 _ _ (by omega) (by omega)]; (unfold zup; repeat (first | rw [if_neg (by omega)] | rw [if_pos (by omega)])); rfl, fun k hk => s3 k hk⟩
              · rw [vup_n hv2, vup_n hv2, vup_n hv2, vup_n hv2, vup_n hv2]
                obtain ⟨q1, q2, q3, q4, q5⟩ := w3.2 v (by omega)
                have := (w1.2 v (by omega)).2.2.1
                refine ⟨by rw [s4 _ _ (by omega) (by omega)]; (unfold zup; repeat (first | rw [if_neg (by omega)] | rw [if_pos (by omega)])); exact q1, by rw [s4 _ _ (by omega) (by omega)]; (unfold zup; repeat (first | rw [if_neg (by omega)] | rw [if_pos (by omega)])); exact q2, by rw [s4 _ _ (by omega) (by omega)]; (unfold zup; repeat (first | rw [if_neg (by omega)] | rw [if_pos (by omega)])); exact q3, by rw [s4 _ _ (by omega) (by omega)]; (unfold zup; repeat (first | rw [if_neg (by omega)] | rw [if_pos (by omega)])); exact q4, fun k hk => by rw [s4 _ _ (by omega) (by omega)]; (unfold zup; repeat (first | rw [if_neg (by omega)] | rw [if_pos (by omega)])); exact q5 k hk⟩
        · have e8 : ¬ nI n ≤ (8 : Int32) := nI_ge (a := 8) (b := n) (by omega) (by omega)
          have e0 : ¬ (0 : Int32) ≤ -1 := by decide
          simp only [hok, hn8, e8, e0, and_false, if_true, z10, if_false, zdv]
          exact zSim_e (zsim_err h (k := 1) (by omega) (by omega) rfl (by decide))
      · have e0 : ¬ (0 : Int32) ≤ -1 := by decide
        simp only [hok, Bool.false_eq_true, false_and, e0, if_true, if_false, zdv]
        exact zSim_e (zsim_err h (k := 1) (by omega) (by omega) rfl (by decide))
    · simp only [ha, hb, and_self, if_true, z10, if_false]
      exact zSim_e (zsim_err h (k := 1) (by omega) (by omega) rfl (by decide))
  · simp only [ha, if_true, if_false]
    exact zSim_e (zsim_err h (k := 1) (by omega) (by omega) rfl (by decide))
