/-! doubt -/
theorem zush_n {m : Nat} (h : m < 2 ^ 32) {s : Int32} (k : Nat) (hs : ((s.toUInt32 &&& Int32.toUInt32 31).toBitVec % 32).toNat = k) : zush (nI m) s = nI (m / 2 ^ k) := pk_ushrN h s k hs
theorem c_bitCount (I : zI) {m : Nat} (h : m < 65536) : fc_JInteger_bitCount I (nI m) = some (nI (zF m)) := by
  unfold fc_JInteger_bitCount
  have e1 : zush (nI m) 1 = nI (m / 2) := zush_n (by omega) 1 (by decide)
  have a1 : nI m - (zush (nI m) 1 &&& 1431655765) = nI (zF1 m) := by
    rw [e1, show (1431655765 : Int32) = nI 1431655765 from rfl, zl_and]
    exact pk_sub (Nat.le_trans Nat.and_le_left (Nat.div_le_self _ _))
  have b1 : zF1 m < 65536 := Nat.lt_of_le_of_lt (Nat.sub_le _ _) h
  rw [a1]
  have e2 : zush (nI (zF1 m)) 2 = nI (zF1 m / 4) := zush_n (by omega) 2 (by decide)
  have a2 : (nI (zF1 m) &&& 858993459) + (zush (nI (zF1 m)) 2 &&& 858993459) = nI (zF2 (zF1 m)) := by
    rw [e2, show (858993459 : Int32) = nI 858993459 from rfl, zl_and, zl_and, zl_add]; rfl
  have b2 : zF2 (zF1 m) < 2 * 65536 := by
    have := Nat.and_le_left (n := zF1 m) (m := 858993459)
    have := Nat.and_le_left (n := zF1 m / 4) (m := 858993459)
    unfold zF2
    omega
  rw [a2]
  have e3 : zush (nI (zF2 (zF1 m))) 4 = nI (zF2 (zF1 m) / 16) := zush_n (by omega) 4 (by decide)
  have a3 : nI (zF2 (zF1 m)) + zush (nI (zF2 (zF1 m))) 4 &&& 252645135 = nI (zF3 (zF2 (zF1 m))) := by
    rw [e3, show (252645135 : Int32) = nI 252645135 from rfl, zl_add, zl_and]; rfl
  have b3 : zF3 (zF2 (zF1 m)) < 4 * 65536 := by
    have := Nat.and_le_left (n := zF2 (zF1 m) + zF2 (zF1 m) / 16) (m := 252645135)
    unfold zF3
    omega
  rw [a3]
  have e4 : zush (nI (zF3 (zF2 (zF1 m)))) 8 = nI (zF3 (zF2 (zF1 m)) / 256) := zush_n (by omega) 8 (by decide)
  have a4 : nI (zF3 (zF2 (zF1 m))) + zush (nI (zF3 (zF2 (zF1 m)))) 8 = nI (zF4 (zF3 (zF2 (zF1 m)))) := by
    rw [e4, zl_add]; rfl
  have b4 : zF4 (zF3 (zF2 (zF1 m))) < 8 * 65536 := by
    unfold zF4
    omega
  rw [a4]
  have e5 : zush (nI (zF4 (zF3 (zF2 (zF1 m))))) 16 = nI (zF4 (zF3 (zF2 (zF1 m))) / 65536) := zush_n (by omega) 16 (by decide)
  rw [e5, show (63 : Int32) = nI 63 from rfl, zl_add, zl_and]; rfl
theorem zpc_two {b a : Nat} (hb : b < 256) (ha : a < 256) : zpc (256 * b + a) = zp8 b + zp8 a := by
  unfold zpc zp8
  rw [show List.range 16 = List.range 8 ++ (List.range 8).map (· + 8) from rfl, List.filter_append, List.length_append, List.filter_map, List.length_map, Nat.add_comm]
  congr 1
  · congr 1
    apply List.filter_congr
    intro i hi
    show (256 * b + a).testBit (i + 8) = b.testBit i
    have := Nat.testBit_two_pow_mul_add (i := 8) b ha (i + 8)
    rw [show 256 * b + a = 2 ^ 8 * b + a from rfl, this, if_neg (by omega), Nat.add_sub_cancel]
  · congr 1
    apply List.filter_congr
    intro i hi
    have hi := List.mem_range.mp hi
    have := Nat.testBit_two_pow_mul_add (i := 8) b ha i
    rw [show 256 * b + a = 2 ^ 8 * b + a from rfl, this, if_pos hi]
theorem zF_pc {m : Nat} (h : m < 65536) : zF m = zpc m := by
  have e : m = 256 * (m / 256) + m % 256 := by omega
  rw [e, zpc_two (by omega) (by omega)]
  have h1 := zF_two (m / 256) (by omega) (m % 256) (by omega)
  have h2 := zF_8 (m / 256) (by omega)
  have h3 := zF_8 (m % 256) (by omega)
  rw [beq_iff_eq] at h1 h2 h3
  rw [h1, h2, h3]
theorem zpc_dn {m : Nat} (h0 : 0 < m) (h : m < 65536) : zpc (m &&& (m - 1)) + 1 = zpc m := by
  have e : m = 256 * (m / 256) + m % 256 := by omega
  have h1 := zF_dn (m / 256) (by omega) (m % 256) (by omega)
  rw [← e] at h1
  simp only [Bool.or_eq_true, beq_iff_eq] at h1
  have : m &&& (m - 1) < 65536 := Nat.lt_of_le_of_lt Nat.and_le_left h
  rw [← zF_pc this, ← zF_pc h]
  omega
theorem zpc_le16 (m : Nat) : zpc m ≤ 16 := by
  unfold zpc
  exact Nat.le_trans (List.length_filter_le _ _) (by simp)
theorem m_bits_L (J : zI) : ∀ (fuel k m : Nat), m < 65536 → zpc m < fuel → fm_bits_L4 J fuel (nI k) (nI m) = some (nI (k + zpc m))
  | 0, k, m, h, hf => by omega
  | f + 1, k, m, h, hf => by
    rw [fm_bits_L4]
    by_cases h0 : m = 0
    · subst h0
      rw [if_pos (show nI 0 = (0 : Int32) from rfl), show zpc 0 = 0 from by decide]; rfl
    · have hd := zpc_dn (by omega) h
      rw [if_neg (nI_ne0 (by omega) (by omega)), nI_1, zl_sub1 (by omega), zl_and, m_bits_L J f (k + 1) (m &&& (m - 1)) (Nat.lt_of_le_of_lt Nat.and_le_left h) (by omega)]
      rw [show k + 1 + zpc (m &&& (m - 1)) = k + zpc m by omega]
theorem zshl1 : ∀ k, k < 17 → ((1 : Int32) <<< (nI k &&& 31)) - 1 = nI (2 ^ k - 1) := by decide +kernel
theorem zushk : ∀ k, k < 17 → (((nI k).toUInt32 &&& Int32.toUInt32 31).toBitVec % 32).toNat = k := by decide +kernel
theorem zush_0 {x : Int32} {k : Nat} (hk : k < 17) : zush x (nI k) = 0 ↔ ∃ m, m < 2 ^ k ∧ x = nI m := by
  have h := pk_ushr x (nI k) k (zushk k hk)
  have h2 : (zush x (nI k)).toBitVec.toNat = x.toBitVec.toNat / 2 ^ k := h
  have hp : 0 < 2 ^ k := Nat.two_pow_pos k
  constructor
  · intro e
    rw [e] at h2
    have h3 : x.toBitVec.toNat / 2 ^ k = 0 := h2.symm
    have h4 := Nat.div_add_mod x.toBitVec.toNat (2 ^ k)
    refine ⟨x.toBitVec.toNat, ?_, nI_all x⟩
    rw [h3] at h4
    have := Nat.mod_lt x.toBitVec.toNat hp
    omega
  · rintro ⟨m, hm, rfl⟩
    have hm2 : m < 2 ^ 32 := Nat.lt_of_lt_of_le hm (Nat.pow_le_pow_right (by omega) (by omega))
    rw [pk_tn hm2, Nat.div_eq_of_lt hm] at h2
    rw [nI_all (zush (nI m) (nI k)), h2]; rfl
theorem sim_doubt {I J : zI} (h : rR I J) (a : Int32) : zSim (fc_T_doubt I a) (fm_doubt J a) := by
  obtain ⟨⟨⟨ns, nj, cs, ea, eb, tt, nw, kd, bg, sp, mk, eg, np, pl, hr, nt, ly, wo, al, dm, nf, fw, fo, hG, hW, hF, hD⟩, hT, hP⟩, hX⟩ := id h
  obtain ⟨g1, g2, g3⟩ := id hG
  obtain ⟨c1, c2, c3, c4, c5⟩ := id g2
  obtain ⟨m1, m2, m3, m4⟩ := id g3
  have hns := g1.1
  have hnj := g1.2.1
  obtain ⟨d1, d2, d3⟩ := id hD
  obtain ⟨p1, p2, p3⟩ := id d2
  obtain ⟨q1, q2, q3⟩ := id d3
  have hpw : 2 ^ nj ≤ 2 ^ 16 := Nat.pow_le_pow_right (by omega) (by omega)
  have hp0 : 0 < 2 ^ nj := Nat.two_pow_pos nj
  unfold fc_T_doubt fm_doubt
  rw [c2, zcl1, m2, zshl1 nj (by omega), mwi]
  simp only [Option.bind_some, zush_0 (show nj < 17 by omega)]
  have hin : (0 ≤ a ∧ a ≤ nI (2 ^ nj - 1)) ↔ ∃ m, m < 2 ^ nj ∧ a = nI m := by
    rw [← zl_sub1 hp0]
    exact zl_cnt (by omega)
  simp only [hin]
  by_cases ha : ∃ m, m < 2 ^ nj ∧ a = nI m
  · simp only [ha, if_true, z10, if_false]
    obtain ⟨m, hm, rfl⟩ := ha
    have h16 := zpc_le16 m
    have hb : fm_bits J (nI m) = some (nI (zpc m)) := by
      have := m_bits_L J 100 0 m (by omega) (by omega)
      rw [Nat.zero_add] at this
      exact this
    rw [c_bitCount I (by omega), zF_pc (by omega), hb, m_become (a := 9) (c := 9) rfl (by omega)]
    have e6 := nI_leI (a := zpc m) (b := 6) (by omega) (by omega)
    have e7 := nI_ltI (a := 6) (b := zpc m) (by omega) (by omega)
    simp only [Option.bind_some]
    by_cases h6 : zpc m ≤ 6
    · have f1 : nI (zpc m) ≤ (6 : Int32) := e6.mpr h6
      have f2 : ¬ (6 : Int32) < nI (zpc m) := fun q => by have := e7.mp q; omega
      simp only [f1, f2, if_true, if_false]
      exact zSim_i rfl (by rw [p1, q1]) (rR_L hT hP hX ⟨ns, nj, cs, ea, eb, tt, nw, kd, bg, sp, mk, eg, np, pl, hr, nt, ly, wo, al, m, nf, fw, fo, keepG hG (by intros; unfold zup; repeat rw [if_neg (by omega)]) (by intros; unfold zup; repeat rw [if_neg (by omega)]), keepW hW (by omega) (by intros; unfold zup; repeat rw [if_neg (by omega)]) (by intros; unfold zup; repeat rw [if_neg (by omega)]), keepF hF (by omega) (by intros; unfold zup; repeat rw [if_neg (by omega)]) (by intros; unfold zup; repeat rw [if_neg (by omega)]), ⟨⟨hm, h6, d1.2.2⟩, ⟨by (unfold zup; repeat (first | rw [if_neg (by omega)] | rw [if_pos (by omega)])), by (unfold zup; repeat (first | rw [if_neg (by omega)] | rw [if_pos (by omega)])); exact p2, fun f hf => by (unfold zup; repeat (first | rw [if_neg (by omega)] | rw [if_pos (by omega)])); exact p3 f hf⟩, ⟨by (unfold zup; repeat (first | rw [if_neg (by omega)] | rw [if_pos (by omega)])), by (unfold zup; repeat (first | rw [if_neg (by omega)] | rw [if_pos (by omega)])); exact q2, fun f hf => by have := d1.2.2.1; (unfold zup; repeat (first | rw [if_neg (by omega)] | rw [if_pos (by omega)])); exact q3 f hf⟩⟩⟩ (by intros c k hc; unfold zxrel at hc; unfold zup; repeat rw [if_neg (by omega)]) (by intros; unfold zup; repeat rw [if_neg (by omega)]) (by intros c k hc; unfold mxrel at hc; unfold zup; repeat rw [if_neg (by omega)]))
    · have f1 : ¬ nI (zpc m) ≤ (6 : Int32) := fun q => h6 (e6.mp q)
      have f2 : (6 : Int32) < nI (zpc m) := e7.mpr (by omega)
      simp only [f1, f2, if_true, if_false]
      exact zSim_e (zsim_err h (k := 1) (by omega) (by omega) rfl (by decide))
  · simp only [ha, if_true, if_false]
    exact zSim_e (zsim_err h (k := 1) (by omega) (by omega) rfl (by decide))
