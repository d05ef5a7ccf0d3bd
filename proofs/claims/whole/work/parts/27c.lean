/-! texts away, the tape fed -/
theorem rR_T {I J I' J' : zI} (h : rR I J) (hT : rT I' (J' 1)) (e : ∀ c k, (c = 1 ∧ 7 ≤ k ∨ 2 ≤ c ∧ c ≤ 28 ∨ c = 29 ∧ k < 2 ∨ c = 30 ∨ c = 31 ∨ c = 45 ∨ c = 46 ∨ zxrel c k) → I' c k = I c k) (e2 : ∀ k, k < 324 → J' 1 k = J 1 k) (e3 : ∀ c k, mxrel c k → J' c k = J c k) : rR I' J' :=
  ⟨⟨rL_cg h.1.1 (fun c k hc => e c k (by omega)) (fun k hk => e2 k (by omega)), hT, rP_cg h.1.2.2 (fun c k hc => e c k (by omega)) (fun k hk => e2 k (by omega))⟩, rX_cg h.2 (fun c k hc => e c k (Or.inr (Or.inr (Or.inr (Or.inr (Or.inr (Or.inr (Or.inr hc)))))))) e3⟩
theorem wfT_len {nn : Nat} {l : List (Nat × Nat)} (h : wfT nn (some l)) : 1 ≤ l.length ∧ l.length ≤ 60 := ⟨zdep_le h.2, h.1⟩
theorem sim_untell {I J : zI} (h : rR I J) (a : Int32) : zSim (fc_T_untell I a) (fm_untell J a) := by
  obtain ⟨⟨t, t1, t2, t3⟩, ⟨u, u1, u2, u3⟩⟩ := h.1.2.1
  unfold fc_T_untell fm_untell
  rw [cwi, mwi]
  simp only [Option.bind_some]
  by_cases ha : 0 ≤ a ∧ a ≤ 1
  · simp only [ha, and_self, if_true, z10, if_false]
    obtain ⟨y, -, hy, rfl⟩ := zl_nat (a := 0) (b := 1) ha (by omega) (by omega)
    rcases (show y = 0 ∨ y = 1 by omega) with rfl | rfl
    · have e1 : fc_T_textOf I (nI 0) = some 35 := rfl
      rw [e1, m_become (c := 324) (by decide) (by omega)]
      simp only [Option.bind_some, show ¬ (35 : Nat) = 40 by omega, if_true, if_false]
      have hR : rR (zup I 35 0 0) (zup J 1 324 0) := rR_T h ⟨⟨none, trivial, zup_y, zup_y⟩, ⟨u, u1, tC_cg u2 (fun d k h1 h2 => by (unfold zup; repeat (first | rw [if_neg (by omega)] | rw [if_pos (by omega)]))), tM_cg u1 u3 (fun k h1 h2 => by (unfold zup; repeat (first | rw [if_neg (by omega)] | rw [if_pos (by omega)])))⟩⟩ (by intros c k hc; unfold zxrel at hc; unfold zup; repeat rw [if_neg (by omega)]) (by intros; unfold zup; repeat rw [if_neg (by omega)]) (by intros c k hc; unfold mxrel at hc; unfold zup; repeat rw [if_neg (by omega)])
      cases t with
      | none =>
        have q1 : I 35 0 = 0 := t2
        have q2 : J 1 324 ≤ 0 := by rw [show J 1 324 = 0 from t3]; decide
        simp only [q1, q2, if_true]
        exact zSim_i rfl rfl hR
      | some l =>
        have q1 : ¬ I 35 0 = 0 := by rw [t2.1]; decide
        have q3 := wfT_len t1
        have q2 : ¬ J 1 324 ≤ 0 := by rw [t3.1]; exact nI_nle (by omega) (by omega)
        simp only [q1, q2, if_false]
        exact zSim_i rfl rfl hR
    · have e1 : fc_T_textOf I (nI 1) = some 40 := rfl
      rw [e1, m_become (c := 386) (by decide) (by omega)]
      simp only [Option.bind_some, if_true]
      have hR : rR (zup I 40 0 0) (zup J 1 386 0) := rR_T h ⟨⟨t, t1, tC_cg t2 (fun d k h1 h2 => by (unfold zup; repeat (first | rw [if_neg (by omega)] | rw [if_pos (by omega)]))), tM_cg t1 t3 (fun k h1 h2 => by (unfold zup; repeat (first | rw [if_neg (by omega)] | rw [if_pos (by omega)])))⟩, ⟨none, trivial, zup_y, zup_y⟩⟩ (by intros c k hc; unfold zxrel at hc; unfold zup; repeat rw [if_neg (by omega)]) (by intros; unfold zup; repeat rw [if_neg (by omega)]) (by intros c k hc; unfold mxrel at hc; unfold zup; repeat rw [if_neg (by omega)])
      cases u with
      | none =>
        have q1 : I 40 0 = 0 := u2
        have q2 : J 1 386 ≤ 0 := by rw [show J 1 386 = 0 from u3]; decide
        simp only [q1, q2, if_true]
        exact zSim_i rfl rfl hR
      | some l =>
        have q1 : ¬ I 40 0 = 0 := by rw [u2.1]; decide
        have q3 := wfT_len u1
        have q2 : ¬ J 1 386 ≤ 0 := by rw [u3.1]; exact nI_nle (by omega) (by omega)
        simp only [q1, q2, if_false]
        exact zSim_i rfl rfl hR
  · simp only [ha, if_true, if_false]
    exact zSim_e (zsim_err h (k := 1) (by omega) (by omega) rfl (by decide))
theorem feed_bv (x : BitVec 64) {s : Nat} (hs : s ≤ 56) : ((x >>> s).setWidth 32 &&& 255#32) = ((x.sshiftRight s) &&& 255#64).setWidth 32 := by
  apply BitVec.eq_of_getLsbD_eq
  intro j hj
  have a1 : (255#32).getLsbD j = decide (j < 8) := by
    rw [BitVec.getLsbD_ofNat, show 255 = 2 ^ 8 - 1 from rfl, Nat.testBit_two_pow_sub_one]; simp [hj]
  have a2 : (255#64).getLsbD j = decide (j < 8) := by
    rw [BitVec.getLsbD_ofNat, show 255 = 2 ^ 8 - 1 from rfl, Nat.testBit_two_pow_sub_one]; simp; omega
  rw [BitVec.getLsbD_and, BitVec.getLsbD_setWidth, BitVec.getLsbD_setWidth, BitVec.getLsbD_and, BitVec.getLsbD_ushiftRight, BitVec.getLsbD_sshiftRight, a1, a2]
  by_cases h8 : j < 8
  · simp [h8, hj, show s + j < 64 by omega, show j < 64 by omega]
  · simp [h8]
theorem feed_byte (w : Int64) {i : Nat} (hi : i < 8) : ∃ b, b < 256 ∧ (Int64.toInt32 (zlushr w (8 * nI i))) &&& 255 = nI b ∧ Int64.toInt32 ((zlshr w (8 * nI i)) &&& (255 : Int64)) = nI b := by
  obtain ⟨b, hb, e⟩ := pk_andE (Int64.toInt32 (zlushr w (8 * nI i))) (m := 255) 8 (by decide)
  refine ⟨b, hb, e, ?_⟩
  rw [← e]
  apply Int32.toBitVec_inj.mp
  have key : ∀ s c, s ≤ 56 → ((Int32.toInt64 c).toUInt64 &&& Int64.toUInt64 63).toBitVec % 64 = BitVec.ofNat 64 s → (Int32.toInt64 c &&& 63).toBitVec.smod 64 = BitVec.ofNat 64 s → (Int64.toInt32 ((zlshr w c) &&& (255 : Int64))).toBitVec = ((Int64.toInt32 (zlushr w c)) &&& 255).toBitVec := fun s c hs h1 h2 => by
    have l1 : (zlushr w c).toBitVec = w.toBitVec >>> s := by
      show w.toBitVec >>> (((Int32.toInt64 c).toUInt64 &&& Int64.toUInt64 63).toBitVec % 64) = _
      rw [h1, BitVec.ushiftRight_eq', BitVec.toNat_ofNat, Nat.mod_eq_of_lt (by omega)]
    have l2 : (zlshr w c).toBitVec = w.toBitVec.sshiftRight s := by
      show w.toBitVec.sshiftRight' ((Int32.toInt64 c &&& 63).toBitVec.smod 64) = _
      rw [h2, BitVec.sshiftRight_eq', BitVec.toNat_ofNat, Nat.mod_eq_of_lt (by omega)]
    show ((zlshr w c).toBitVec &&& 255#64).signExtend 32 = (zlushr w c).toBitVec.signExtend 32 &&& 255#32
    rw [l1, l2, BitVec.signExtend_eq_setWidth_of_le _ (by omega), BitVec.signExtend_eq_setWidth_of_le _ (by omega)]
    exact (feed_bv w.toBitVec hs).symm
  rcases (show i = 0 ∨ i = 1 ∨ i = 2 ∨ i = 3 ∨ i = 4 ∨ i = 5 ∨ i = 6 ∨ i = 7 by omega) with rfl | rfl | rfl | rfl | rfl | rfl | rfl | rfl
  · exact key 0 _ (by omega) (by decide) (by decide)
  · exact key 8 _ (by omega) (by decide) (by decide)
  · exact key 16 _ (by omega) (by decide) (by decide)
  · exact key 24 _ (by omega) (by decide) (by decide)
  · exact key 32 _ (by omega) (by decide) (by decide)
  · exact key 40 _ (by omega) (by decide) (by decide)
  · exact key 48 _ (by omega) (by decide) (by decide)
  · exact key 56 _ (by omega) (by decide) (by decide)
theorem sim_feed_L {w : Int64} {n : Nat} (hn : n ≤ 8) : ∀ (m k fuel : Nat) (I J : zI) (z : Nat), k + m = n → m < fuel → rR I J → I 1 7 = nI z → z + m ≤ 60 → zSim (fc_T_feed_L39 fuel w (nI n) (nI k) I) (fm_feed_L41 fuel w (nI n) (nI k) J)
  | 0, k, fuel, I, J, z, hk, hf, h, h7, hz => by
    obtain ⟨g, rfl⟩ : ∃ g, fuel = g + 1 := ⟨fuel - 1, by omega⟩
    obtain ⟨⟨n1, b, a1, a2, a3, a4⟩, ⟨m, b1, b2, b3, b4⟩, e8⟩ := h.1.2.2
    rw [fc_T_feed_L39, fm_feed_L41, if_pos (nI_le (by omega) (by omega)), if_pos (nI_le (by omega) (by omega))]
    exact zSim_i rfl (by rw [show (6 : Int32).toNatClampNeg = 6 from by decide, a2, a3]) h
  | m + 1, k, fuel, I, J, z, hk, hf, h, h7, hz => by
    obtain ⟨g, rfl⟩ : ∃ g, fuel = g + 1 := ⟨fuel - 1, by omega⟩
    obtain ⟨⟨n1, b, a1, a2, a3, a4⟩, ⟨m2, b1, b2, b3, b4⟩, e8⟩ := h.1.2.2
    have e7 := (nI_eq (by omega) (by omega)).mp (h7.symm.trans a2)
    subst e7
    obtain ⟨x, hx, x1, x2⟩ := feed_byte w (i := k) (by omega)
    rw [fc_T_feed_L39, fm_feed_L41, if_neg (nI_ge (by omega) (by omega)), if_neg (nI_ge (by omega) (by omega)), x1, x2, show (6 : Int32).toNatClampNeg = 6 from by decide, a2, a3, k_240, zl_add, zl_b (by omega), zl_b (by omega), show decide (z < 60) = true from decide_eq_true (by omega), show decide (240 + z < 448) = true from decide_eq_true (by omega), zl_cl z (by omega), zl_cl (240 + z) (by omega), nI_1, nI_1]
    simp only [z_guard, if_true]
    have q : zup J 1 (240 + z) (nI x) 1 6 = nI z := by (unfold zup; repeat (first | rw [if_neg (by omega)] | rw [if_pos (by omega)])); exact a3
    rw [q, nI_1]
    refine sim_feed_L hn m (k + 1) g _ _ (z + 1) (by omega) (by omega) (rR_P h ⟨⟨z + 1, vup b z x, by omega, by (unfold zup; repeat (first | rw [if_neg (by omega)] | rw [if_pos (by omega)])), by (unfold zup; repeat (first | rw [if_neg (by omega)] | rw [if_pos (by omega)])), fun j hj => ?_⟩, ⟨m2, b1, by (unfold zup; repeat (first | rw [if_neg (by omega)] | rw [if_pos (by omega)])); exact b2, by (unfold zup; repeat (first | rw [if_neg (by omega)] | rw [if_pos (by omega)])); exact b3, fun k hk => by (unfold zup; repeat (first | rw [if_neg (by omega)] | rw [if_pos (by omega)])); exact b4 k hk⟩, by (unfold zup; repeat (first | rw [if_neg (by omega)] | rw [if_pos (by omega)])); exact e8⟩ (by intros c k hc; unfold zxrel at hc; unfold zup; repeat rw [if_neg (by omega)]) (by intros; unfold zup; repeat rw [if_neg (by omega)]) (by intros c k hc; unfold mxrel at hc; unfold zup; repeat rw [if_neg (by omega)])) (by (unfold zup; repeat (first | rw [if_neg (by omega)] | rw [if_pos (by omega)]))) (by omega)
    by_cases hj2 : j = z
    · subst hj2; rw [vup_s]; exact ⟨hx, by (unfold zup; repeat (first | rw [if_neg (by omega)] | rw [if_pos (by omega)])), by (unfold zup; repeat (first | rw [if_neg (by omega)] | rw [if_pos (by omega)]))⟩
    · rw [vup_n hj2]
      obtain ⟨l1, l2, l3⟩ := a4 j (by omega)
      exact ⟨l1, by (unfold zup; repeat (first | rw [if_neg (by omega)] | rw [if_pos (by omega)])); exact l2, by (unfold zup; repeat (first | rw [if_neg (by omega)] | rw [if_pos (by omega)])); exact l3⟩
theorem sim_feed {I J : zI} (h : rR I J) (w : Int64) (a : Int32) : zSim (fc_T_feed I w a) (fm_feed J w a) := by
  obtain ⟨⟨z, b, a1, a2, a3, a4⟩, ⟨m2, b1, b2, b3, b4⟩, e8⟩ := h.1.2.2
  unfold fc_T_feed fm_feed
  rw [cwi, mwi]
  simp only [Option.bind_some]
  by_cases ha : 1 ≤ a ∧ a ≤ 8
  · simp only [ha, and_self, if_true, z10, if_false]
    obtain ⟨n, hn1, hn, rfl⟩ := zl_nat (a := 1) (b := 8) ha (by omega) (by omega)
    rw [show (6 : Int32).toNatClampNeg = 6 from by decide, a2, a3, zl_add]
    have ee := nI_leI (a := z + n) (b := 60) (by omega) (by omega)
    by_cases e : z + n ≤ 60
    · have e2 : nI (z + n) ≤ (60 : Int32) := ee.mpr e
      simp only [e2, if_true]
      exact sim_feed_L hn n 0 100 I J z (by omega) (by omega) h a2 e
    · have e2 : ¬ nI (z + n) ≤ (60 : Int32) := fun q => e (ee.mp q)
      simp only [e2, if_false]
      exact zSim_e (zsim_err h (k := 4) (by omega) (by omega) rfl (by decide))
  · simp only [ha, if_true, if_false]
    exact zSim_e (zsim_err h (k := 1) (by omega) (by omega) rfl (by decide))
