/-! put -/
theorem zshl_m8 : ((1 : Int32) <<< ((8 : Int32) &&& 31)) - 1 = 255 := by decide
theorem zshl_m16 : ((1 : Int32) <<< ((16 : Int32) &&& 31)) - 1 = 65535 := by decide
theorem zv_bmod (v : Int32) : v.toInt = (v.toBitVec.toNat : Int).bmod (2 ^ 32) := by
  show v.toBitVec.toInt = _
  exact BitVec.toInt_eq_toNat_bmod v.toBitVec
theorem zbits8 (v : Int32) : rNum (v &&& 255) (Int32.toInt8 v).toInt32 := by
  have h1 := pk_and v (m := 255) 8 (by decide)
  have h2 : (Int32.toInt8 v).toInt32.toInt = v.toInt.bmod 256 := by
    rw [Int8.toInt_toInt32, Int32.toInt_toInt8]
  have h3 := zv_bmod v
  have h4 : v.toInt.bmod 256 = ((v.toBitVec.toNat % 2 ^ 8 : Nat) : Int).bmod 256 := by
    rw [h3]
    simp only [Int.bmod_def]
    split <;> split <;> split <;> omega
  have hk2 : v.toBitVec.toNat % 2 ^ 8 < 256 := Nat.mod_lt _ (by omega)
  rw [h1]
  generalize v.toBitVec.toNat % 2 ^ 8 = k at h4 hk2
  by_cases hk : k < 128
  · left
    apply Int32.toInt_inj.mp
    rw [h2, h4, nI_toInt (by omega)]
    simp only [Int.bmod_def]
    split <;> omega
  · right
    refine ⟨nI_le (a := 128) (by omega) (by omega), ?_⟩
    apply Int32.lt_iff_toInt_lt.mpr
    rw [h2, h4, show (0 : Int32).toInt = 0 by decide]
    simp only [Int.bmod_def]
    split <;> omega
theorem zbits16 (v : Int32) : rNum (v &&& 65535) (Int32.toInt16 v).toInt32 := by
  have h1 := pk_and v (m := 65535) 16 (by decide)
  have h2 : (Int32.toInt16 v).toInt32.toInt = v.toInt.bmod 65536 := by
    rw [Int16.toInt_toInt32, Int32.toInt_toInt16]
  have h3 := zv_bmod v
  have h4 : v.toInt.bmod 65536 = ((v.toBitVec.toNat % 2 ^ 16 : Nat) : Int).bmod 65536 := by
    rw [h3]
    simp only [Int.bmod_def]
    split <;> split <;> split <;> omega
  have hk2 : v.toBitVec.toNat % 2 ^ 16 < 65536 := Nat.mod_lt _ (by omega)
  rw [h1]
  generalize v.toBitVec.toNat % 2 ^ 16 = k at h4 hk2
  by_cases hk : k < 32768
  · left
    apply Int32.toInt_inj.mp
    rw [h2, h4, nI_toInt (by omega)]
    simp only [Int.bmod_def]
    split <;> omega
  · right
    refine ⟨nI_le (a := 128) (by omega) (by omega), ?_⟩
    apply Int32.lt_iff_toInt_lt.mpr
    rw [h2, h4, show (0 : Int32).toInt = 0 by decide]
    simp only [Int.bmod_def]
    split <;> omega
theorem sim_put {I J : zI} (h : rR I J) (a b v : Int32) : zSim (fc_T_put I a b v) (fm_put J a b v) := by
  unfold fc_T_put fm_put
  rw [c_isSheet, m_isSheet]
  simp only [Option.bind_some]
  by_cases ha : 0 ≤ a ∧ a ≤ 3
  · simp only [ha, and_self, if_true, z10, if_false]
    obtain ⟨s, -, hs, rfl⟩ := zl_nat (a := 0) (b := 3) ha (by omega) (by omega)
    obtain ⟨b1, b2, b3, ⟨n, hn, b4⟩, b5⟩ := h.2.1 s (by omega)
    have zbs : zb (nI s) 4 = true := by rw [zl_b (by omega)]; exact decide_eq_true (by omega)
    have cls : (nI s).toNatClampNeg = s := zl_cl s (by omega)
    simp only [zbs, cls, z_guard, if_true, b1, b2]
    by_cases h0 : I 94 s = 0
    · simp only [h0, if_true]
      exact zSim_e (zsim_err h (k := 2) (by omega) (by omega) rfl (by decide))
    · simp only [h0, if_false]
      rw [cwi, mwi, b4]
      simp only [zl_cnt (show n < 2 ^ 31 by omega), Option.bind_some]
      by_cases hb : ∃ k, k < n ∧ b = nI k
      · simp only [hb, if_true, z10, if_false]
        obtain ⟨k, hk, rfl⟩ := hb
        have e1 : (24 : Int32) * nI s + nI k = nI (24 * s + k) := by rw [k_24, zl_mul, zl_add]
        have e2 : zb (nI (24 * s + k)) 96 = true := by rw [zl_b (by omega)]; exact decide_eq_true (by omega)
        have e3 : zb (nI k) 24 = true := by rw [zl_b (by omega)]; exact decide_eq_true (by omega)
        have e4 : (nI k).toNatClampNeg = k := zl_cl k (by omega)
        have e5 : (nI (24 * s + k)).toNatClampNeg = 24 * s + k := zl_cl _ (by omega)
        simp only [e1, e2, e3, e4, e5, if_true]
        have key : ∀ x y, rNum x y → rR (zup I (97 + s) k x) (zup J 14 (24 * s + k) y) := fun x y hxy => rR_S h (fun q hq => by
          obtain ⟨d1, d2, d3, d4, d5⟩ := h.2.1 q hq
          refine ⟨by (unfold zup; repeat (first | rw [if_neg (by omega)] | rw [if_pos (by omega)])); exact d1, by (unfold zup; repeat (first | rw [if_neg (by omega)] | rw [if_pos (by omega)])); exact d2, by (unfold zup; repeat (first | rw [if_neg (by omega)] | rw [if_pos (by omega)])); exact d3, by (unfold zup; repeat (first | rw [if_neg (by omega)] | rw [if_pos (by omega)])); exact d4, fun i hi => ?_⟩
          by_cases hqs : q = s
          · subst hqs
            by_cases hik : i = k
            · subst hik; rw [zup_y, zup_y]; exact hxy
            · rw [zup_o (by omega), zup_o (by omega)]; exact d5 i hi
          · rw [zup_o (by omega), zup_o (by omega)]; exact d5 i hi) (fun c k hc h1 h2 h3 => zup_o (by omega)) (fun k hk => zup_o (by omega)) (fun c k hc h1 h2 h3 => zup_o (by omega))
        unfold fc_T_lowestBits
        have q1 : ¬ (8 : Int32) = 32 := by decide
        have q2 : ¬ (16 : Int32) = 32 := by decide
        have q3 : ¬ (16 : Int32) = 8 := by decide
        have q4 : ¬ (32 : Int32) = 8 := by decide
        have q5 : ¬ (32 : Int32) = 16 := by decide
        rcases b3 with e | e | e | e
        · exact absurd e h0
        · simp only [e, q1, if_true, if_false, Option.bind_some, zshl_m8]
          exact zSim_i rfl rfl (key _ _ (zbits8 v))
        · simp only [e, q2, q3, if_true, if_false, Option.bind_some, zshl_m16]
          exact zSim_i rfl rfl (key _ _ (zbits16 v))
        · simp only [e, q4, q5, if_true, if_false, Option.bind_some]
          exact zSim_i rfl rfl (key _ _ (Or.inl rfl))
      · simp only [hb, if_false, if_true]
        exact zSim_e (zsim_err h (k := 1) (by omega) (by omega) rfl (by decide))
  · simp only [ha, if_false, if_true]
    exact zSim_e (zsim_err h (k := 1) (by omega) (by omega) rfl (by decide))
/-! joins -/
theorem rNum_e {x y : Int32} (h : rNum x y) : x = y ∨ (∀ k, k < 128 → ¬ x = nI k ∧ ¬ y = nI k) := by
  rcases h with h | ⟨h1, h2⟩
  · exact Or.inl h
  · refine Or.inr fun k hk => ⟨?_, ?_⟩
    · rintro rfl
      exact nI_ge (b := 128) hk (by omega) h1
    · rintro rfl
      exact nI_pos (by omega) h2
theorem sim_try2 {I J : zI} (h : rR I J) {a b t a' b' t' : Int32} (ha : rNum a a') (hb : rNum b b') (ht : rNum t t') : (∃ k : Nat, 1 ≤ k ∧ k ≤ 6 ∧ fc_Ground_joinError I a b t = some (nI k) ∧ fm_whyNot J a' b' t' = some (-1000000 - nI k)) ∨ (fc_Ground_joinError I a b t = some 0 ∧ fm_whyNot J a' b' t' = some 0 ∧ ∃ (r : Int32) (I' J' : zI), fc_Ground_addJoin I a b t = some (r, I') ∧ fm_joined J a' b' t' = some (r, J') ∧ rR I' J' ∧ (∀ c, c = 95 ∨ 97 ≤ c ∧ c ≤ 100 → I' c = I c) ∧ (∀ c, c = 13 ∨ c = 14 → J' c = J c)) := by
  by_cases hall : a = a' ∧ b = b' ∧ t = t'
  · obtain ⟨rfl, rfl, rfl⟩ := hall
    exact sim_try h a b t
  obtain ⟨⟨⟨ns, nj, cs, ea, eb, tt, nw, kd, bg, sp, mk, eg, np, pl, hr, nt, ly, wo, al, dm, nf, fw, fo, hG, hW, hF, hD⟩, hT, hP⟩, hX⟩ := id h
  obtain ⟨g1, g2, g3⟩ := id hG
  obtain ⟨c1, c2, c3, c4, c5⟩ := id g2
  obtain ⟨m1, m2, m3, m4⟩ := id g3
  have hns := g1.1
  have hnj := g1.2.1
  refine Or.inl ⟨1, by omega, by omega, ?_, ?_⟩
  · rw [c_joinError g1 g2]
    have : jerr ns nj ea eb a b t = 1 := by
      unfold jerr
      rw [if_pos]
      rcases rNum_e ha with e1 | e1
      · rcases rNum_e hb with e2 | e2
        · rcases rNum_e ht with e3 | e3
          · exact absurd ⟨e1, e2, e3⟩ hall
          · refine Or.inr (Or.inr (Or.inr fun hq => ?_))
            obtain ⟨k, -, hk, rfl⟩ := zl_nat (a := 0) (b := 1) hq (by omega) (by omega)
            exact (e3 k (by omega)).1 rfl
        · exact Or.inr (Or.inl fun ⟨k, hk, e⟩ => (e2 k (by omega)).1 e)
      · exact Or.inl fun ⟨k, hk, e⟩ => (e1 k (by omega)).1 e
    rw [this]
  · rw [m_whyNot g1 g3]
    have : jerr ns nj ea eb a' b' t' = 1 := by
      unfold jerr
      rw [if_pos]
      rcases rNum_e ha with e1 | e1
      · rcases rNum_e hb with e2 | e2
        · rcases rNum_e ht with e3 | e3
          · exact absurd ⟨e1, e2, e3⟩ hall
          · refine Or.inr (Or.inr (Or.inr fun hq => ?_))
            obtain ⟨k, -, hk, rfl⟩ := zl_nat (a := 0) (b := 1) hq (by omega) (by omega)
            exact (e3 k (by omega)).2 rfl
        · exact Or.inr (Or.inl fun ⟨k, hk, e⟩ => (e2 k (by omega)).2 e)
      · exact Or.inl fun ⟨k, hk, e⟩ => (e1 k (by omega)).2 e
    rw [this, if_neg (by omega)]
theorem sim_joins_L {s n : Nat} (hs : s < 4) (hn : n ≤ 24) : ∀ (m k fuel : Nat) (I J : zI), 3 * k + m = 24 + 3 → m < fuel → 3 * k ≤ 24 → rR I J → I 95 s = nI n → zSim (fc_T_joins_L40 (97 + s) fuel (nI s) (nI k) (nI (3 * k)) I) (fm_joins_L37 fuel (nI s) (nI k) (nI (24 * s + 3 * k)) J) := by
  intro m
  induction m using Nat.strongRecOn with
  | _ m ih =>
    intro k fuel I J hk hf hk8 h h95
    obtain ⟨g, rfl⟩ : ∃ g, fuel = g + 1 := ⟨fuel - 1, by omega⟩
    obtain ⟨b1, b2, b3, b4, b5⟩ := h.2.1 s hs
    have zbs : zb (nI s) 4 = true := by rw [zl_b (by omega)]; exact decide_eq_true (by omega)
    have cls : (nI s).toNatClampNeg = s := zl_cl s (by omega)
    rw [fc_T_joins_L40, fm_joins_L37, zbs, cls, b2, h95]
    have e1 : nI (3 * k) + 2 = nI (3 * k + 2) := by rw [k_2, zl_add]
    have e2 : (3 : Int32) * nI k + 3 = nI (3 * k + 3) := by rw [k_3, zl_mul, zl_add]
    have f1 := nI_leI (a := n) (b := 3 * k + 2) (by omega) (by omega)
    have f2 := nI_ltI (a := n) (b := 3 * k + 3) (by omega) (by omega)
    rw [e1, e2]
    simp only [z_guard, if_true]
    by_cases hq : n ≤ 3 * k + 2
    · rw [if_pos (f1.mpr hq), if_pos (f2.mpr (by omega))]
      exact zSim_i rfl rfl h
    · rw [if_neg (show ¬ nI n ≤ nI (3 * k + 2) from fun q => hq (f1.mp q)), if_neg (show ¬ nI n < nI (3 * k + 3) from fun q => by have := f2.mp q; omega)]
      have i1 : zb (nI (3 * k)) 24 = true := by rw [zl_b (by omega)]; exact decide_eq_true (by omega)
      have i2 : zb (nI (3 * k + 1)) 24 = true := by rw [zl_b (by omega)]; exact decide_eq_true (by omega)
      have i3 : zb (nI (3 * k + 2)) 24 = true := by rw [zl_b (by omega)]; exact decide_eq_true (by omega)
      have i4 : zb (nI (24 * s + 3 * k)) 96 = true := by rw [zl_b (by omega)]; exact decide_eq_true (by omega)
      have i5 : zb (nI (24 * s + 3 * k + 1)) 96 = true := by rw [zl_b (by omega)]; exact decide_eq_true (by omega)
      have i6 : zb (nI (24 * s + 3 * k + 2)) 96 = true := by rw [zl_b (by omega)]; exact decide_eq_true (by omega)
      have l1 : nI (24 * s + 3 * k) + 2 = nI (24 * s + 3 * k + 2) := by rw [k_2, zl_add]
      rw [nI_1 (3 * k), nI_1 (24 * s + 3 * k), l1, i1, i2, i3, i4, i5, i6, zl_cl _ (by omega), zl_cl _ (by omega), zl_cl _ (by omega), zl_cl _ (by omega), zl_cl _ (by omega), zl_cl _ (by omega)]
      simp only [if_true]
      rcases sim_try2 h (b5 (3 * k) (by omega)) (b5 (3 * k + 1) (by omega)) (b5 (3 * k + 2) (by omega)) with ⟨q, q1, q2, r1, r2⟩ | ⟨r1, r2, x, I', J', r3, r4, r5, r6, r7⟩
      · obtain ⟨n1, n2⟩ := zl_low q1 q2
        rw [show 24 * s + 3 * k + 1 = 24 * s + (3 * k + 1) by omega, show 24 * s + 3 * k + 2 = 24 * s + (3 * k + 2) by omega]
        rw [r1, r2, Option.bind_some, Option.bind_some, if_neg n1, if_neg n2]
        exact zSim_i rfl rfl h
      · rw [show 24 * s + 3 * k + 1 = 24 * s + (3 * k + 1) by omega, show 24 * s + 3 * k + 2 = 24 * s + (3 * k + 2) by omega]
        rw [r1, r2, Option.bind_some, Option.bind_some, if_pos rfl, if_pos rfl, r3, r4, Option.bind_some, Option.bind_some]
        have w1 : nI (3 * k) + 3 = nI (3 * (k + 1)) := by rw [k_3, zl_add]; rfl
        have w2 : nI (24 * s + 3 * k) + 3 = nI (24 * s + 3 * (k + 1)) := by rw [k_3, zl_add]; rfl
        have w3 : nI k + 1 = nI (k + 1) := nI_1 k
        rw [w1, w2, w3]
        exact ih (m - 3) (by omega) (k + 1) g I' J' (by omega) (by omega) (by omega) r5 (by rw [r6 95 (Or.inl rfl)]; exact h95)
theorem sim_joins {I J : zI} (h : rR I J) (a : Int32) : zSim (fc_T_joins I a) (fm_joins J a) := by
  unfold fc_T_joins fm_joins
  rw [c_isSheet, m_isSheet]
  simp only [Option.bind_some]
  by_cases ha : 0 ≤ a ∧ a ≤ 3
  · simp only [ha, and_self, if_true, z10, if_false]
    obtain ⟨s, -, hs, rfl⟩ := zl_nat (a := 0) (b := 3) ha (by omega) (by omega)
    obtain ⟨b1, b2, b3, ⟨n, hn, b4⟩, b5⟩ := h.2.1 s (by omega)
    have zbs : zb (nI s) 4 = true := by rw [zl_b (by omega)]; exact decide_eq_true (by omega)
    have cls : (nI s).toNatClampNeg = s := zl_cl s (by omega)
    simp only [zbs, cls, z_guard, if_true, b1]
    by_cases h0 : I 94 s = 0
    · simp only [h0, if_true]
      exact zSim_e (zsim_err h (k := 2) (by omega) (by omega) rfl (by decide))
    · simp only [h0, if_false]
      have e1 : (24 : Int32) * nI s = nI (24 * s + 3 * 0) := by rw [k_24, zl_mul]; rfl
      rw [e1]
      exact sim_joins_L (by omega) hn 27 0 100 I J (by omega) (by omega) (by omega) h b4
  · simp only [ha, if_false, if_true]
    exact zSim_e (zsim_err h (k := 1) (by omega) (by omega) rfl (by decide))
