/-! move -/
abbrev zstd (n : Nat) (i x : Int32) : Prop := ¬ x < 0 ∧ ¬ i < 0 ∧ i.toNatClampNeg + x.toNatClampNeg ≤ n
theorem zstd_i {n : Nat} {i x : Int32} (hn : n ≤ 24) : zstd n i x ↔ ∃ a b, i = nI a ∧ x = nI b ∧ a + b ≤ n := by
  constructor
  · rintro ⟨h1, h2, h3⟩
    obtain ⟨a, ha, rfl⟩ := nI_of h2
    obtain ⟨b, hb, rfl⟩ := nI_of h1
    rw [nI_clamp ha, nI_clamp hb] at h3
    exact ⟨a, b, rfl, rfl, h3⟩
  · rintro ⟨a, b, rfl, rfl, h⟩
    exact ⟨nI_pos (by omega), nI_pos (by omega), by rw [nI_clamp (by omega), nI_clamp (by omega)]; exact h⟩
theorem c_standThere {V : zI} {s n : Nat} (hs : s < 4) (hn : n ≤ 24) (h : V 95 s = nI n) (i x : Int32) : fc_T_standThere V (nI s) i x = some (if zstd n i x then 1 else 0) := by
  unfold fc_T_standThere
  rw [zl_b (by omega), show decide (s < 4) = true from decide_eq_true hs, zl_cl s (by omega), h]
  simp only [z_guard, if_true]
  by_cases hx : x < 0
  · rw [if_pos hx, if_neg]
    rintro ⟨h1, -, -⟩
    exact h1 hx
  · rw [if_neg hx]
    obtain ⟨b, hb, rfl⟩ := nI_of hx
    by_cases hi : i < 0
    · rw [if_pos hi, if_neg]
      rintro ⟨-, h1, -⟩
      exact h1 hi
    · rw [if_neg hi]
      obtain ⟨a, ha, rfl⟩ := nI_of hi
      have f1 := nI_ltI (a := n) (b := b) (by omega) hb
      by_cases h1 : n < b
      · rw [if_pos (f1.mpr h1), if_neg]
        rw [zstd_i hn]
        rintro ⟨a2, b2, e1, e2, hab⟩
        have := (nI_eq hb (by omega)).mp e2
        omega
      · rw [if_neg (fun q => h1 (f1.mp q)), pk_sub (by omega)]
        have f2 := nI_ltI (a := n - b) (b := a) (by omega) ha
        by_cases h2 : n - b < a
        · rw [if_pos (f2.mpr h2), if_neg]
          rw [zstd_i hn]
          rintro ⟨a2, b2, e1, e2, hab⟩
          have := (nI_eq hb (by omega)).mp e2
          have := (nI_eq ha (by omega)).mp e1
          omega
        · rw [if_neg (fun q => h2 (f2.mp q)), if_pos (show zstd n (nI a) (nI b) from (zstd_i hn).mpr ⟨a, b, rfl, rfl, by omega⟩)]
theorem m_move1_L {s3 j n : Nat} (hs : s3 < 4) (hj : j + n ≤ 24) : ∀ (m k fuel : Nat) (V : zI), k + m = n → m < fuel → ∃ V', fm_move_L165 fuel (nI s3) (nI j) (nI n) (nI k) V = some (nI n, V') ∧ (∀ i, k ≤ i → i < n → V' 14 (24 * s3 + j + i) = V 15 i) ∧ ∀ c x, ¬ (c = 14 ∧ 24 * s3 + j + k ≤ x ∧ x < 24 * s3 + j + n) → V' c x = V c x
  | 0, k, fuel, V, hk, hf => by
    obtain ⟨g, rfl⟩ : ∃ g, fuel = g + 1 := ⟨fuel - 1, by omega⟩
    rw [fm_move_L165, if_pos (nI_le (by omega) (by omega))]
    exact ⟨V, rfl, fun i h1 h2 => by omega, fun _ _ _ => rfl⟩
  | m + 1, k, fuel, V, hk, hf => by
    obtain ⟨g, rfl⟩ : ∃ g, fuel = g + 1 := ⟨fuel - 1, by omega⟩
    rw [fm_move_L165, if_neg (nI_ge (by omega) (by omega)), k_24, zl_mul, zl_add, zl_add, zl_b (by omega), zl_b (by omega), show decide (k < 24) = true from decide_eq_true (by omega), show decide (24 * s3 + j + k < 96) = true from decide_eq_true (by omega), zl_cl _ (by omega), zl_cl _ (by omega), nI_1]
    simp only [z_guard, if_true]
    obtain ⟨V', r1, r2, r3⟩ := m_move1_L hs hj m (k + 1) g (zup V 14 (24 * s3 + j + k) (V 15 k)) (by omega) (by omega)
    refine ⟨V', r1, fun i h1 h2 => ?_, fun c x hc => ?_⟩
    · by_cases hi : i = k
      · subst hi; rw [r3 _ _ (by omega), zup_y]
      · rw [r2 i (by omega) h2, zup_o (by omega)]
    · rw [r3 c x (by omega), zup_o (by omega)]
theorem m_move2_L {s1 s3 i j n : Nat} (hs1 : s1 < 4) (hs : s3 < 4) (hi : i + n ≤ 24) (hj : j + n ≤ 24) (J : zI) : ∀ (m k fuel : Nat) (V : zI), k + m = n → m < fuel → (∀ x, x < k → V 15 x = J 14 (24 * s1 + i + x)) → (∀ c x, c ≠ 15 → V c x = J c x) → ∃ V', fm_move_L128 fuel (nI s1) (nI i) (nI s3) (nI j) (nI n) (nI k) V = some (nI n, V') ∧ (∀ x, x < n → V' 14 (24 * s3 + j + x) = J 14 (24 * s1 + i + x)) ∧ ∀ c x, c ≠ 15 → ¬ (c = 14 ∧ 24 * s3 + j ≤ x ∧ x < 24 * s3 + j + n) → V' c x = J c x
  | 0, k, fuel, V, hk, hf, h1, h2 => by
    obtain ⟨g, rfl⟩ : ∃ g, fuel = g + 1 := ⟨fuel - 1, by omega⟩
    rw [fm_move_L128, if_pos (nI_le (by omega) (by omega))]
    obtain ⟨V', r1, r2, r3⟩ := m_move1_L hs hj n 0 100 V (by omega) (by omega)
    exact ⟨V', r1, fun x hx => by rw [r2 x (by omega) hx]; exact h1 x (by omega), fun c x hc hc2 => by rw [r3 c x (by omega)]; exact h2 c x hc⟩
  | m + 1, k, fuel, V, hk, hf, h1, h2 => by
    obtain ⟨g, rfl⟩ : ∃ g, fuel = g + 1 := ⟨fuel - 1, by omega⟩
    rw [fm_move_L128, if_neg (nI_ge (by omega) (by omega)), k_24, zl_mul, zl_add, zl_add, zl_b (by omega), zl_b (by omega), show decide (k < 24) = true from decide_eq_true (by omega), show decide (24 * s1 + i + k < 96) = true from decide_eq_true (by omega), zl_cl _ (by omega), zl_cl _ (by omega), nI_1]
    simp only [z_guard, if_true]
    exact m_move2_L hs1 hs hi hj J m (k + 1) g (zup V 15 k (V 14 (24 * s1 + i + k))) (by omega) (by omega) (fun x hx => by
      by_cases hxk : x = k
      · subst hxk; rw [zup_y]; exact h2 _ _ (by omega)
      · rw [zup_o (by omega)]; exact h1 x (by omega)) (fun c x hc => by rw [zup_o (by omega)]; exact h2 c x hc)
theorem zl_i64 {a b n : Nat} (ha : a < 2 ^ 31) (hb : b < 2 ^ 31) (hn : n ≤ 24) : (0 < lg_cmp ((nI a).toInt64 + (nI b).toInt64) (nI n).toInt64 ↔ n < a + b) ∧ (lg_cmp ((nI a).toInt64 + (nI b).toInt64) (nI n).toInt64 ≤ 0 ↔ a + b ≤ n) := by
  rw [nI_l ha, nI_l hb, nI_l (by omega), lg_cmp_gt, lg_cmp_le]
  have e : lN a + lN b = lN (a + b) := by
    apply Int64.toBitVec_inj.mp
    show BitVec.ofNat 64 a + BitVec.ofNat 64 b = BitVec.ofNat 64 (a + b)
    exact (BitVec.ofNat_add a b).symm
  rw [e]
  exact ⟨pk_lLT (by omega) (by omega), pk_lLE (by omega) (by omega)⟩
theorem sim_move {I J : zI} (h : rR I J) (a b c d e : Int32) : zSim (fc_T_move I a b c d e) (fm_move J a b c d e) := by
  unfold fc_T_move fm_move
  rw [c_isSheet, m_isSheet, c_isSheet, m_isSheet]
  simp only [Option.bind_some]
  by_cases ha : 0 ≤ a ∧ a ≤ 3
  · by_cases hc : 0 ≤ c ∧ c ≤ 3
    · simp only [ha, hc, and_self, if_true, z10, if_false]
      obtain ⟨s, -, hs, rfl⟩ := zl_nat (a := 0) (b := 3) ha (by omega) (by omega)
      obtain ⟨t, -, ht, rfl⟩ := zl_nat (a := 0) (b := 3) hc (by omega) (by omega)
      obtain ⟨b1, b2, b3, ⟨n, hn, b4⟩, b5⟩ := h.2.1 s (by omega)
      obtain ⟨d1, d2, d3, ⟨n2, hn2, d4⟩, d5⟩ := h.2.1 t (by omega)
      have zbs : zb (nI s) 4 = true := by rw [zl_b (by omega)]; exact decide_eq_true (by omega)
      have cls : (nI s).toNatClampNeg = s := zl_cl s (by omega)
      have zbt : zb (nI t) 4 = true := by rw [zl_b (by omega)]; exact decide_eq_true (by omega)
      have clt : (nI t).toNatClampNeg = t := zl_cl t (by omega)
      simp only [zbs, cls, zbt, clt, z_guard, if_true, b1, d1, b2, d2, b4, d4]
      by_cases h0 : I 94 s = 0
      · simp only [h0, if_true]
        exact zSim_e (zsim_err h (k := 2) (by omega) (by omega) rfl (by decide))
      · simp only [h0, if_false]
        by_cases h1 : I 94 t = 0
        · simp only [h1, if_true]
          exact zSim_e (zsim_err h (k := 2) (by omega) (by omega) rfl (by decide))
        · simp only [h1, if_false]
          by_cases hst : I 94 s = I 94 t
          · simp only [hst, if_true]
            rw [c_standThere (by omega) hn b4, c_standThere (by omega) hn2 d4]
            simp only [Option.bind_some]
            by_cases he : e < 0
            · have n1 : ¬ zstd n2 d e := by
                rintro ⟨q, -, -⟩; exact q he
              have n2 : ¬ zstd n b e := by
                rintro ⟨q, -, -⟩; exact q he
              simp only [n1, n2, he, if_true, if_false]
              exact zSim_e (zsim_err h (k := 1) (by omega) (by omega) rfl (by decide))
            · simp only [he, if_false]
              obtain ⟨z, hz, rfl⟩ := nI_of he
              by_cases hb : b < 0
              · have n2 : ¬ zstd n b (nI z) := by
                  rintro ⟨-, q, -⟩; exact q hb
                simp only [n2, hb, if_true, if_false]
                exact zSim_e (zsim_err h (k := 1) (by omega) (by omega) rfl (by decide))
              · simp only [hb, if_false]
                obtain ⟨x, hx, rfl⟩ := nI_of hb
                by_cases hd : d < 0
                · have n1 : ¬ zstd n2 d (nI z) := by
                    rintro ⟨-, q, -⟩; exact q hd
                  by_cases hq : zstd n (nI x) (nI z)
                  · rw [if_pos hq, if_neg z10, if_neg n1, if_pos rfl, if_pos hd]
                    exact zSim_e (zsim_err h (k := 1) (by omega) (by omega) rfl (by decide))
                  · rw [if_neg hq, if_pos rfl, if_pos hd]
                    exact zSim_e (zsim_err h (k := 1) (by omega) (by omega) rfl (by decide))
                · simp only [hd, if_false]
                  obtain ⟨y, hy, rfl⟩ := nI_of hd
                  obtain ⟨l1, -⟩ := zl_i64 hx hz hn
                  obtain ⟨-, l2⟩ := zl_i64 hy hz hn2
                  have k1 : zstd n (nI x) (nI z) ↔ x + z ≤ n := by
                    rw [zstd_i (by omega)]
                    constructor
                    · rintro ⟨u, v, e1, e2, huv⟩
                      have := (nI_eq hx (by omega)).mp e1
                      have := (nI_eq hz (by omega)).mp e2
                      omega
                    · intro hq; exact ⟨x, z, rfl, rfl, hq⟩
                  have k2 : zstd n2 (nI y) (nI z) ↔ y + z ≤ n2 := by
                    rw [zstd_i (by omega)]
                    constructor
                    · rintro ⟨u, v, e1, e2, huv⟩
                      have := (nI_eq hy (by omega)).mp e1
                      have := (nI_eq hz (by omega)).mp e2
                      omega
                    · intro hq; exact ⟨y, z, rfl, rfl, hq⟩
                  simp only [l1, l2, k1, k2]
                  by_cases q1 : x + z ≤ n
                  · by_cases q2 : y + z ≤ n2
                    · simp only [q1, q2, show ¬ n < x + z by omega, if_true, if_false, z10]
                      have ok : zcpOk (nI x) (nI y) (nI z) 24 24 = true := by
                        unfold zcpOk
                        rw [nI_toInt hx, nI_toInt hy, nI_toInt hz]
                        simp only [Bool.and_eq_true, decide_eq_true_eq]
                        omega
                      rw [if_pos ok]
                      obtain ⟨J', r1, r2, r3⟩ := m_move2_L (s1 := s) (s3 := t) (i := x) (j := y) (n := z) (by omega) (by omega) (by omega) (by omega) J z 0 100 J (by omega) (by omega) (fun _ h => by omega) (fun _ _ _ => rfl)
                      refine zSim_i rfl r1 ?_
                      have zo : ∀ c k, c ≠ 97 + t → zcopy I (97 + s) (97 + t) (nI x) (nI y) (nI z) c k = I c k := fun c k hc => by
                        unfold zcopy zrow
                        rw [if_neg hc]
                      have zi : ∀ k, zcopy I (97 + s) (97 + t) (nI x) (nI y) (nI z) (97 + t) k = va_cpy (I (97 + s)) (I (97 + t)) x y z k := fun k => by
                        unfold zcopy zrow
                        rw [if_pos rfl, nI_clamp hx, nI_clamp hy, nI_clamp hz]
                      refine rR_S h (fun q hq => ?_) (fun c k hc h1 h2 h3 => zo c k (by omega)) (fun k hk => r3 1 k (by omega) (by omega)) (fun c k hc h1 h2 h3 => r3 c k (by unfold mxrel at hc; omega) (by omega))
                      obtain ⟨u1, u2, u3, u4, u5⟩ := h.2.1 q hq
                      refine ⟨by rw [r3 _ _ (by omega) (by omega), zo _ _ (by omega)]; exact u1, by rw [r3 _ _ (by omega) (by omega), zo _ _ (by omega)]; exact u2, by rw [zo _ _ (by omega)]; exact u3, by rw [zo _ _ (by omega)]; exact u4, fun k hk => ?_⟩
                      by_cases hqt : q = t
                      · subst hqt
                        rw [zi k]
                        by_cases hin : y ≤ k ∧ k < y + z
                        · rw [pk_cpy_in hin.1 hin.2]
                          have := r2 (k - y) (by omega)
                          rw [show 24 * q + y + (k - y) = 24 * q + k by omega] at this
                          rw [this, show 24 * s + x + (k - y) = 24 * s + (x + (k - y)) by omega]
                          exact b5 _ (by omega)
                        · rw [pk_cpy_out (by omega), r3 _ _ (by omega) (by omega)]
                          exact u5 k hk
                      · rw [zo _ _ (by omega), r3 _ _ (by omega) (by omega)]
                        exact u5 k hk
                    · simp only [q1, q2, show ¬ n < x + z by omega, if_true, if_false, z10]
                      exact zSim_e (zsim_err h (k := 1) (by omega) (by omega) rfl (by decide))
                  · simp only [q1, show n < x + z by omega, if_true, if_false]
                    exact zSim_e (zsim_err h (k := 1) (by omega) (by omega) rfl (by decide))
          · simp only [hst, if_false]
            exact zSim_e (zsim_err h (k := 5) (by omega) (by omega) rfl (by decide))
    · simp only [ha, hc, and_self, if_true, z10, if_false]
      exact zSim_e (zsim_err h (k := 1) (by omega) (by omega) rfl (by decide))
  · simp only [ha, if_false, if_true]
    exact zSim_e (zsim_err h (k := 1) (by omega) (by omega) rfl (by decide))
