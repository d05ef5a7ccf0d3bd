/-! the weighing as a whole, on both sides -/
def zod (nj : Nat) (ea eb : Nat → Nat) (T : Nat → Nat → Option (Nat × Nat)) (eg : Nat → Nat) (p n : Nat) : Option Nat := if zpl T eg p n = none then none else some (zox nj ea eb T eg p n)
theorem zox_lt {nj : Nat} {ea eb : Nat → Nat} {T : Nat → Nat → Option (Nat × Nat)} {eg : Nat → Nat} {p : Nat} (hnj : nj ≤ 16) : ∀ k, zox nj ea eb T eg p k < 65536
  | 0 => by rw [zox]; omega
  | k + 1 => by
    rw [zox]
    refine Nat.xor_lt_two_pow (n := 16) (zox_lt hnj k) ?_
    cases e : jn ea eb nj (4 * (zpv T eg p k / 2) + eg k) with
    | none => exact Nat.two_pow_pos 16
    | some j =>
      have := (jn_some e).1
      exact Nat.pow_lt_pow_right (by omega) (by omega)
theorem zod_lt {nj : Nat} {ea eb : Nat → Nat} {T : Nat → Nat → Option (Nat × Nat)} {eg : Nat → Nat} {p n : Nat} (hnj : nj ≤ 16) (o : Nat) (h : zod nj ea eb T eg p n = some o) : o < 65536 := by
  unfold zod at h
  by_cases hz : zpl T eg p n = none
  · rw [if_pos hz] at h; cases h
  · rw [if_neg hz] at h
    cases h
    exact zox_lt hnj n
/-- joins that are told as turned -/
def ztu (tt : Nat → Nat) : Nat → Nat
  | 0 => 0
  | n + 1 => ztu tt n ||| tt n * 2 ^ n
theorem ztu_lt {tt : Nat → Nat} : ∀ n, n ≤ 16 → (∀ j, j < n → tt j < 2) → ztu tt n < 65536
  | 0, _, _ => by rw [ztu]; omega
  | n + 1, h, h2 => by
    rw [ztu]
    refine Nat.or_lt_two_pow (n := 16) (ztu_lt n (by omega) (fun j hj => h2 j (by omega))) ?_
    have h3 := h2 n (by omega)
    have h4 : 2 ^ n ≤ 2 ^ 15 := Nat.pow_le_pow_right (by omega) (by omega)
    rcases (show tt n = 0 ∨ tt n = 1 by omega) with e | e <;> rw [e] <;> omega
theorem zshl_t {x j : Nat} (hx : x < 2) (hj : j < 16) : nI x <<< (nI j &&& 31) = nI (x * 2 ^ j) := by
  have h4 : 2 ^ j ≤ 2 ^ 15 := Nat.pow_le_pow_right (by omega) (by omega)
  refine pk_shlN _ j (zsh_n j hj) ?_
  rcases (show x = 0 ∨ x = 1 by omega) with e | e <;> rw [e] <;> omega
theorem c_tset_L {V : zI} {ns nj : Nat} {cs ea eb tt : Nat → Nat} (hw : wfG ns nj cs ea eb tt) (h : gC V ns nj cs ea eb tt) : ∀ (m k fuel : Nat), k + m = nj → m < fuel → fc_Ground_turnedSet_L4 V fuel (nI (ztu tt k)) (nI k) = some (nI (ztu tt nj)) := by
  have hnj := hw.2.1
  intro m
  induction m with
  | zero =>
    intro k fuel hk hf
    obtain ⟨f, rfl⟩ : ∃ f, fuel = f + 1 := ⟨fuel - 1, by omega⟩
    rw [fc_Ground_turnedSet_L4, h.2.1, if_pos (nI_le (by omega) (by omega)), show k = nj by omega]
  | succ m ih =>
    intro k fuel hk hf
    obtain ⟨f, rfl⟩ : ∃ f, fuel = f + 1 := ⟨fuel - 1, by omega⟩
    have i1 := ih (k + 1) f (by omega) (by omega)
    rw [ztu] at i1
    rw [fc_Ground_turnedSet_L4, h.2.1, if_neg (nI_ge (by omega) (by omega)), zl_b (by omega), show decide (k < 16) = true from decide_eq_true (by omega), zl_cl k (by omega), (h.2.2.2.1 k (by omega)).2.2, zshl_t ((hw.2.2.2.1 k (by omega)).2.2.2) (by omega), zl_or, nI_1]
    exact i1
theorem m_tset_L {V : zI} {ns nj : Nat} {cs ea eb tt : Nat → Nat} (hw : wfG ns nj cs ea eb tt) (h : gM (V 1) ns nj cs ea eb tt) : ∀ (m k fuel : Nat), k + m = nj → m < fuel → fm_turned_L4 V fuel (nI (ztu tt k)) (nI k) = some (nI (ztu tt nj)) := by
  have hnj := hw.2.1
  intro m
  induction m with
  | zero =>
    intro k fuel hk hf
    obtain ⟨f, rfl⟩ : ∃ f, fuel = f + 1 := ⟨fuel - 1, by omega⟩
    rw [fm_turned_L4, zcl1, h.2.1, if_pos (nI_le (by omega) (by omega)), show k = nj by omega]
  | succ m ih =>
    intro k fuel hk hf
    obtain ⟨f, rfl⟩ : ∃ f, fuel = f + 1 := ⟨fuel - 1, by omega⟩
    have i1 := ih (k + 1) f (by omega) (by omega)
    rw [ztu] at i1
    rw [fm_turned_L4, zcl1, h.2.1, if_neg (nI_ge (by omega) (by omega)), show (2 : Int32) = nI 2 from rfl, m_joinOf (by omega) (by omega), (h.2.2.2 k (by omega)).2.2, Option.bind_some, zshl_t ((hw.2.2.2.1 k (by omega)).2.2.2) (by omega), zl_or, nI_1]
    exact i1
theorem zandnot (a b : Nat) : nI a &&& (nI b ^^^ (-1 : Int32)) = nI (a ^^^ (a &&& b)) := by
  rw [← zl_xor, ← zl_and]
  apply Int32.toBitVec_inj.mp
  show (nI a).toBitVec &&& ((nI b).toBitVec ^^^ BitVec.ofInt 32 (-1)) = (nI a).toBitVec ^^^ ((nI a).toBitVec &&& (nI b).toBitVec)
  generalize (nI a).toBitVec = x
  generalize (nI b).toBitVec = y
  rw [show BitVec.ofInt 32 (-1) = BitVec.allOnes 32 from by decide]
  apply BitVec.eq_of_getLsbD_eq
  intro i hi
  rw [BitVec.getLsbD_and, BitVec.getLsbD_xor, BitVec.getLsbD_xor, BitVec.getLsbD_and, BitVec.getLsbD_allOnes, decide_eq_true hi]
  cases x.getLsbD i <;> cases y.getLsbD i <;> rfl
theorem zl_subw {a b : Nat} (h : b ≤ 4294967296 + a) : nI a - nI b = nI (4294967296 + a - b) := by
  have e : nI (4294967296 + a - b) + nI b = nI a := by
    rw [zl_add, Nat.sub_add_cancel h]
    apply Int32.toBitVec_inj.mp
    show BitVec.ofNat 32 (4294967296 + a) = BitVec.ofNat 32 a
    apply BitVec.eq_of_toNat_eq
    rw [BitVec.toNat_ofNat, BitVec.toNat_ofNat]
    omega
  rw [← e]
  generalize nI (4294967296 + a - b) = x
  grind
theorem zfi_o {I : zI} {i n c k : Nat} {v : Int32} (h : c ≠ i) : zfill I i n v c k = I c k := by
  unfold zfill zrow
  rw [if_neg h]
theorem zfi_y {I : zI} {i n k : Nat} {v : Int32} (h : k < n) : zfill I i n v i k = v := by
  unfold zfill zrow
  rw [if_pos rfl]
  exact if_pos h
theorem zpl_nn {T : Nat → Nat → Option (Nat × Nat)} {eg : Nat → Nat} {p k n : Nat} (h : ¬ zpl T eg p n = none) (hk : k ≤ n) : ∃ q, zpl T eg p k = some q := by
  cases e : zpl T eg p k with
  | some q => exact ⟨q, rfl⟩
  | none =>
    have := zpl_none e (n - k)
    rw [show k + (n - k) = n by omega] at this
    exact absurd this h
theorem c_weigh2_L {I : zI} {ns nj nw : Nat} {cs ea eb tt : Nat → Nat} {t : Option (List (Nat × Nat))} {kd bg sp : Nat → Nat} {mk : Nat → Int32} {eg : Nat → Nat → Nat} (hG : wfG ns nj cs ea eb tt) (hg : gC I ns nj cs ea eb tt) (hC : cT I ns (zcr nj cs ea eb tt t)) (g1 : wfW ns nw kd bg sp mk eg) (g2 : wC I nw kd bg sp mk eg) : ∀ (m k fuel : Nat) (V : zI), k + m = nw → m < fuel → (∀ c j, c ≠ 34 → c ≠ 178 → c ≠ 179 → V c j = I c j) → (∀ w, w < k → V 34 w = zov (zod nj ea eb (zcr nj cs ea eb tt t) (eg w) (2 * bg w) (sp w))) → ∃ g V1, fc_Doubts_weigh_L2 fuel (nI k) V = fc_Doubts_weigh_L2 (g + 1) (nI nw) V1 ∧ (∀ c j, c ≠ 34 → c ≠ 178 → c ≠ 179 → V1 c j = I c j) ∧ ∀ w, w < nw → V1 34 w = zov (zod nj ea eb (zcr nj cs ea eb tt t) (eg w) (2 * bg w) (sp w))
  | 0, k, fuel, V, hk, hf, hV, h34 => ⟨fuel - 1, V, by rw [show k = nw by omega, show fuel - 1 + 1 = fuel by omega], hV, fun w hw => h34 w (by omega)⟩
  | m + 1, k, fuel, V, hk, hf, hV, h34 => by
    obtain ⟨f, rfl⟩ : ∃ f, fuel = f + 1 := ⟨fuel - 1, by omega⟩
    have hT := mk_wT hG t
    have hnw := g1.1
    have hns := hG.1
    obtain ⟨a1, a2, a3, a4, a5⟩ := g1.2 k (by omega)
    have hC2 : cT V ns (zcr nj cs ea eb tt t) := cT_cg hC (fun c j hc => hV c j (by omega) (by omega) (by omega))
    have g22 : wC V nw kd bg sp mk eg := wW_cg g2 hnw (fun c j h1 h2 => hV c j (by omega) (by omega) (by omega))
    obtain ⟨V', r1, r2, r3, r4⟩ := c_goes (h := 0) hT hC2 g1 g22 (w := k) (by omega) (by omega)
    rw [Nat.add_zero] at r1 r2 r3
    have h7 : V 7 0 = nI nw := g22.1
    rw [fc_Doubts_weigh_L2, h7, if_neg (nI_ge (by omega) (by omega))]
    have hnext : ∀ x : Int32, x = zov (zod nj ea eb (zcr nj cs ea eb tt t) (eg k) (2 * bg k) (sp k)) → ∃ g V1, fc_Doubts_weigh_L2 f (nI (k + 1)) (zup V' 34 k x) = fc_Doubts_weigh_L2 (g + 1) (nI nw) V1 ∧ (∀ c j, c ≠ 34 → c ≠ 178 → c ≠ 179 → V1 c j = I c j) ∧ ∀ w, w < nw → V1 34 w = zov (zod nj ea eb (zcr nj cs ea eb tt t) (eg w) (2 * bg w) (sp w)) := fun x hx =>
      c_weigh2_L hG hg hC g1 g2 m (k + 1) f (zup V' 34 k x) (by omega) (by omega) (fun c j h1 h2 h3 => by rw [zup_o (by omega), r4 c j h2 h3, hV c j h1 h2 h3]) (fun w hw => by
        by_cases hwk : w = k
        · subst hwk; rw [zup_y, hx]
        · rw [zup_o (by omega), r4 _ _ (by omega) (by omega), h34 w (by omega)])
    by_cases hz : zpl (zcr nj cs ea eb tt t) (eg k) (2 * bg k) (sp k) = none
    · have r1' : fc_Walker_goes V (nI k) 0 = some (0, V') := by rw [if_pos hz] at r1; exact r1
      rw [r1', Option.bind_some, if_pos rfl, zl_b (by omega), show decide (k < 10) = true from decide_eq_true (by omega), zl_cl k (by omega), nI_1]
      exact hnext _ (by unfold zod; rw [if_pos hz]; rfl)
    · have r1' : fc_Walker_goes V (nI k) 0 = some (1, V') := by rw [if_neg hz] at r1; exact r1
      have hgk := zgk_full.mpr hz
      rw [hgk] at r2 r3
      have ho : fc_Walker_oddJoins V' (nI k) = some (nI (zox nj ea eb (zcr nj cs ea eb tt t) (eg k) (2 * bg k) (sp k))) :=
        c_odd_L (I := V') hG (gC_cg hg (fun c j h1 h2 => by rw [r4 c j (by omega) (by omega), hV c j (by omega) (by omega) (by omega)])) g1 (wW_cg g22 hnw (fun c j h1 h2 => r4 c j (by omega) (by omega))) (w := k) (p := 2 * bg k) (by omega) (fun i hi => zpv_lt hT a5 (by omega) hi) (fun i hi e => by
          obtain ⟨q, hq⟩ := zpl_nn hz (k := i) (by omega)
          have hv : zpv (zcr nj cs ea eb tt t) (eg k) (2 * bg k) i = q := by unfold zpv; rw [hq]; rfl
          rw [hv] at e
          have hnn := (zpl_cr hq).1 e
          obtain ⟨q2, hq2⟩ := zpl_nn hz (k := i + 1) (by omega)
          rw [hnn] at hq2; cases hq2) r2 r3 (sp k) 0 100 (by omega) (by omega)
      rw [r1', Option.bind_some, if_neg z10]
      show ∃ g V1, ((fc_Walker_oddJoins V' (nI k)).bind fun r16 => z_guard (zb (nI k) 10) <| fc_Doubts_weigh_L2 f (nI k + (1 : Int32)) (zup V' 34 (nI k).toNatClampNeg r16)) = fc_Doubts_weigh_L2 (g + 1) (nI nw) V1 ∧ _
      rw [ho, Option.bind_some, zl_b (by omega), show decide (k < 10) = true from decide_eq_true (by omega), zl_cl k (by omega), nI_1]
      exact hnext _ (by unfold zod; rw [if_neg hz]; rfl)
theorem c_weigh {I : zI} {ns nj nw dm nf : Nat} {cs ea eb tt : Nat → Nat} {t : Option (List (Nat × Nat))} {kd bg sp : Nat → Nat} {mk : Nat → Int32} {eg : Nat → Nat → Nat} {fw fo : Nat → Nat} (hG : wfG ns nj cs ea eb tt) (hg : gC I ns nj cs ea eb tt) (hC : cT I ns (zcr nj cs ea eb tt t)) (g1 : wfW ns nw kd bg sp mk eg) (g2 : wC I nw kd bg sp mk eg) (d1 : wfD nj nw dm nf fw fo) (d2 : dC I dm nf fw fo) {od : Nat → Option Nat} (hod : od = fun w => zod nj ea eb (zcr nj cs ea eb tt t) (eg w) (2 * bg w) (sp w)) {S : Nat} (hS : S = ztu tt nj ^^^ (ztu tt nj &&& dm)) : ∃ V', fc_Doubts_weigh I = some V' ∧ V' 29 4 = nI (zsum (fun i => zso od fw fo (zwy S dm i) nf) (fun _ => 1) (2 ^ zpc dm)) ∧ (∀ j, j < nj → V' 32 j = nI (zsum (fun i => zso od fw fo (zwy S dm i) nf) (fun i => zwy S dm i / 2 ^ j % 2) (2 ^ zpc dm))) ∧ (∀ w, w < nw → V' 33 w = nI (zsum (fun i => zso od fw fo (zwy S dm i) nf) (fun i => zev (od w) (zwy S dm i)) (2 ^ zpc dm))) ∧ (∀ w, w < nw → V' 34 w = zov (od w)) ∧ ∀ c j, ¬ (c = 29 ∧ j = 4) → ¬ (32 ≤ c ∧ c ≤ 34) → c ≠ 178 → c ≠ 179 → V' c j = I c j := by
  have hnj := hG.2.1
  have hnw := g1.1
  have hpw : 2 ^ nj ≤ 2 ^ 16 := Nat.pow_le_pow_right (by omega) (by omega)
  have hdm : dm < 65536 := by have := d1.1; omega
  have htu := ztu_lt (tt := tt) nj (by omega) (fun j hj => (hG.2.2.2.1 j hj).2.2.2)
  have hSl : S < 65536 := by
    rw [hS]
    exact Nat.xor_lt_two_pow (n := 16) htu (Nat.lt_of_le_of_lt Nat.and_le_left htu)
  obtain ⟨g, V1, q1, q2, q3⟩ := c_weigh2_L hG hg hC g1 g2 nw 0 100 I (by omega) (by omega) (fun _ _ _ _ _ => rfl) (fun w hw => by omega)
  unfold fc_Doubts_weigh
  rw [show (0 : Int32) = nI 0 from rfl, q1, fc_Doubts_weigh_L2, q2 7 0 (by omega) (by omega) (by omega), g2.1, if_pos (nI_le (by omega) (by omega))]
  obtain ⟨X, hX⟩ : ∃ X, X = zfill (zfill (zup V1 29 4 (0 : Int32)) 32 16 (0 : Int32)) 33 10 (0 : Int32) := ⟨_, rfl⟩
  rw [← hX]
  have x0 : ∀ c j, ¬ (c = 29 ∧ j = 4) → ¬ (32 ≤ c ∧ c ≤ 34) → c ≠ 178 → c ≠ 179 → X c j = I c j := fun c j h1 h2 h3 h4 => by
    rw [hX, zfi_o (by omega), zfi_o (by omega), zup_o (by omega), q2 c j (by omega) h3 h4]
  have x1 : X 29 4 = nI 0 := by rw [hX, zfi_o (by omega), zfi_o (by omega), zup_y]; rfl
  have x2 : ∀ j, j < 16 → X 32 j = nI 0 := fun j hj => by rw [hX, zfi_o (by omega), zfi_y hj]; rfl
  have x3 : ∀ j, j < 10 → X 33 j = nI 0 := fun j hj => by rw [hX, zfi_y hj]; rfl
  have x4 : ∀ w, w < nw → X 34 w = zov (od w) := fun w hw => by rw [hX, zfi_o (by omega), zfi_o (by omega), zup_o (by omega), q3 w hw, hod]
  have hg2 : gC X ns nj cs ea eb tt := gC_cg hg (fun c j h1 h2 => x0 c j (by omega) (by omega) (by omega) (by omega))
  have hts : fc_Ground_turnedSet X = some (nI (ztu tt nj)) := c_tset_L hG hg2 nj 0 100 (by omega) (by omega)
  have h29 : X 29 0 = nI dm := by rw [x0 _ _ (by omega) (by omega) (by omega) (by omega)]; exact d2.1
  have h6 := d1.2.1
  have hN : 2 ^ zpc dm ≤ 2 ^ 6 := Nat.pow_le_pow_right (by omega) h6
  have hN0 : 0 < 2 ^ zpc dm := Nat.two_pow_pos _
  rw [hts, Option.bind_some, h29, c_bitCount X hdm, zF_pc hdm, Option.bind_some, zandnot, ← hS, zshl2 (zpc dm) (by omega)]
  obtain ⟨V', r1, r2, r3, r4, r5⟩ := c_weigh_L (od := od) (fw := fw) (fo := fo) (nf := nf) hnj hnw d1.2.2.1 hSl hdm (fun f hf => d1.2.2.2 f hf) (fun w hw o ho => by rw [hod] at ho; exact zod_lt hnj o ho) X ⟨h29, by rw [x0 _ _ (by omega) (by omega) (by omega) (by omega)]; exact d2.2.1⟩ (fun f hf => by rw [x0 _ _ (by omega) (by omega) (by omega) (by omega), x0 _ _ (by omega) (by omega) (by omega) (by omega)]; exact d2.2.2 f hf) (by rw [x0 _ _ (by omega) (by omega) (by omega) (by omega)]; exact g2.1) hg2.2.1 x4 (2 ^ zpc dm) (by rw [zpq_zpc]; exact Nat.le_refl _) (by omega) (2 ^ zpc dm) 100 X (Nat.le_refl _) (by omega) ⟨0, x1, Nat.zero_add _⟩ (fun j hj => ⟨0, x2 j (by omega), Nat.zero_add _⟩) (fun w hw => ⟨0, x3 w (by omega), Nat.zero_add _⟩) (fun _ _ _ _ _ => rfl) (nI dm) (fun _ => by
    have := zdq_top 16 dm hdm
    rw [zpq_zpc] at this
    rw [this])
  exact ⟨V', r1, r2, r3, r4, fun w hw => by rw [r5 _ _ (by omega) (by omega) (by omega)]; exact x4 w hw, fun c j h1 h2 h3 h4 => by rw [r5 c j (by omega) (by omega) h1, x0 c j h1 h2 h3 h4]⟩
/-! the reference's list of ways -/
def zls (f g : Nat → Nat) : Nat → Nat
  | 0 => 0
  | n + 1 => zls f g n + g (f n)
theorem zls_cg {f f' g : Nat → Nat} : ∀ n, (∀ k, k < n → f' k = f k) → zls f' g n = zls f g n
  | 0, _ => rfl
  | n + 1, h => by rw [zls, zls, zls_cg n (fun k hk => h k (by omega)), h n (by omega)]
theorem m_oddOf {J : zI} {ns nj nw : Nat} {cs ea eb tt : Nat → Nat} {t : Option (List (Nat × Nat))} {kd bg sp : Nat → Nat} {mk : Nat → Int32} {eg : Nat → Nat → Nat} (hG : wfG ns nj cs ea eb tt) (hg : gM (J 1) ns nj cs ea eb tt) (g1 : wfW ns nw kd bg sp mk eg) (g2 : wM (J 1) nw kd bg sp mk eg) {w : Nat} (hw : w < nw) : fm_oddOf J (nI w) = some (zov (zod nj ea eb (zcr nj cs ea eb tt t) (eg w) (2 * bg w) (sp w))) := by
  have hnw := g1.1
  obtain ⟨a1, a2, a3, a4, a5⟩ := g1.2 w hw
  obtain ⟨b1, b2, b3, b4, b5⟩ := g2.2 w hw
  have h0 := m_odd_L (t := t) hG hg g1 g2 hw (p := 2 * bg w) (by omega) (sp w) 0 100 (2 * bg w) (by omega) (by omega) rfl
  rw [show 2 * bg w / 2 = bg w by omega] at h0
  unfold fm_oddOf
  have hwk : fm_walkOf J (nI w) (1 : Int32) = some (nI (bg w)) := by rw [show (1 : Int32) = nI 1 from rfl, m_walkOf (by omega) (by omega), b2]
  rw [hwk, Option.bind_some]
  refine Eq.trans h0 ?_
  unfold zod
  by_cases hz : zpl (zcr nj cs ea eb tt t) (eg w) (2 * bg w) (sp w) = none
  · rw [if_pos hz, if_pos hz]; rfl
  · rw [if_neg hz, if_neg hz]; rfl
theorem m_find_L {J0 : zI} {S dm nf : Nat} {od : Nat → Option Nat} {fw fo : Nat → Nat} (hS : S < 65536) (hd : dm < 65536) (hN64 : 2 ^ zpq 16 dm ≤ 64) (hagr : ∀ V : zI, (∀ c j, c ≠ 10 → ¬ (c = 0 ∧ j = 23) → V c j = J0 c j) → ∀ x, x < 65536 → fm_agrees V (nI x) = some (if zso od fw fo x nf then 1 else 0)) : ∀ (m i fuel : Nat) (V : zI) (f : Nat → Nat), i + m + 1 = 2 ^ zpq 16 dm → m + 2 < fuel → (∀ c j, c ≠ 10 → ¬ (c = 0 ∧ j = 23) → V c j = J0 c j) → V 0 23 = nI (zsum (fun i => zso od fw fo (zwy S dm i) nf) (fun _ => 1) i) → (∀ k, k < zsum (fun i => zso od fw fo (zwy S dm i) nf) (fun _ => 1) i → V 10 k = nI (f k) ∧ f k < 65536) → (∀ g : Nat → Nat, zls f g (zsum (fun i => zso od fw fo (zwy S dm i) nf) (fun _ => 1) i) = zsum (fun i => zso od fw fo (zwy S dm i) nf) (fun i => g (zwy S dm i)) i) → ∃ (V' : zI) (f' : Nat → Nat), fm_findWays_L27 fuel (nI dm) (nI S) (nI (zdq 16 dm i)) 1 V = some V' ∧ (∀ c j, c ≠ 10 → ¬ (c = 0 ∧ j = 23) → V' c j = J0 c j) ∧ V' 0 23 = nI (zsum (fun i => zso od fw fo (zwy S dm i) nf) (fun _ => 1) (2 ^ zpq 16 dm)) ∧ (∀ k, k < zsum (fun i => zso od fw fo (zwy S dm i) nf) (fun _ => 1) (2 ^ zpq 16 dm) → V' 10 k = nI (f' k) ∧ f' k < 65536) ∧ ∀ g : Nat → Nat, zls f' g (zsum (fun i => zso od fw fo (zwy S dm i) nf) (fun _ => 1) (2 ^ zpq 16 dm)) = zsum (fun i => zso od fw fo (zwy S dm i) nf) (fun i => g (zwy S dm i)) (2 ^ zpq 16 dm) := by
  intro m
  induction m with
  | zero =>
    intro i fuel V f hi hf hV h23 h10 hsum
    obtain ⟨q, rfl⟩ : ∃ q, fuel = q + 2 := ⟨fuel - 2, by omega⟩
    have hx := zwy_lt (i := i) hS hd
    have htop := zdq_top 16 dm hd
    rw [show 2 ^ zpq 16 dm - 1 = i by omega] at htop
    have hz : (nI dm - nI dm) &&& nI dm = 0 := by rw [zl_sub _ _ (Nat.le_refl _), Nat.sub_self, zl_and, Nat.zero_and]; rfl
    rw [fm_findWays_L27, if_neg z10, zl_or, show S ||| zdq 16 dm i = zwy S dm i from rfl, hagr V hV _ hx, Option.bind_some, htop, hz]
    cases hq : zso od fw fo (zwy S dm i) nf with
    | false =>
      rw [if_neg (show ¬ (false = true) by decide), if_pos rfl, if_pos rfl, fm_findWays_L27, if_pos rfl]
      have e1 := zsum_0 (p := fun i => zso od fw fo (zwy S dm i) nf) (g := fun _ => 1) (n := i) hq
      rw [show i + 1 = 2 ^ zpq 16 dm by omega] at e1
      refine ⟨V, f, rfl, hV, by rw [e1]; exact h23, by rw [e1]; exact h10, fun g => ?_⟩
      have e2 := zsum_0 (p := fun i => zso od fw fo (zwy S dm i) nf) (g := fun i => g (zwy S dm i)) (n := i) hq
      rw [show i + 1 = 2 ^ zpq 16 dm by omega] at e2
      rw [e1, e2]; exact hsum g
    | true =>
      have hc := zsum_le (p := fun i => zso od fw fo (zwy S dm i) nf) (g := fun _ => 1) (fun _ => Nat.le_refl _) i
      rw [if_pos rfl, if_neg z10, h23]
      generalize hcc : zsum (fun i => zso od fw fo (zwy S dm i) nf) (fun _ => 1) i = c at *
      rw [zl_b (by omega), show decide (c < 64) = true from decide_eq_true (by omega), zl_cl c (by omega), nI_1]
      simp only [z_guard, if_true]
      rw [fm_findWays_L27, if_pos rfl]
      have e1 := zsum_1 (p := fun i => zso od fw fo (zwy S dm i) nf) (g := fun _ => 1) (n := i) hq
      rw [show i + 1 = 2 ^ zpq 16 dm by omega, hcc] at e1
      refine ⟨_, vup f c (zwy S dm i), rfl, fun a j h1 h2 => by rw [zup_o (by omega), zup_o (by omega)]; exact hV a j h1 h2, by rw [zup_y, e1], fun k hk => ?_, fun g => ?_⟩
      · rw [e1] at hk
        rw [zup_o (by omega)]
        by_cases hkc : k = c
        · subst hkc; rw [zup_y, vup_s]; exact ⟨rfl, hx⟩
        · rw [zup_o (by omega), vup_n hkc]; exact h10 k (by omega)
      · have e2 := zsum_1 (p := fun i => zso od fw fo (zwy S dm i) nf) (g := fun i => g (zwy S dm i)) (n := i) hq
        rw [show i + 1 = 2 ^ zpq 16 dm by omega] at e2
        rw [e1, e2, ← hsum g, zls, vup_s, zls_cg c (fun k hk => vup_n (by omega))]
  | succ m ih =>
    intro i fuel V f hi hf hV h23 h10 hsum
    obtain ⟨q, rfl⟩ : ∃ q, fuel = q + 1 := ⟨fuel - 1, by omega⟩
    have hx := zwy_lt (i := i) hS hd
    have hle : zdq 16 dm i ≤ dm := by
      rw [← zdq_sub 16 dm i]
      exact Nat.and_le_right
    have hz : (nI (zdq 16 dm i) - nI dm) &&& nI dm = nI (zdq 16 dm (i + 1)) := by
      rw [zl_subw (by omega), zl_and]
      have := zdq_up 16 16 dm i hd (by omega)
      rw [show 2 ^ (16 + 16) = 4294967296 from rfl] at this
      rw [this]
    have hp := zdq_pos 16 dm i (by omega)
    have hl2 : zdq 16 dm (i + 1) ≤ dm := by
      rw [← zdq_sub 16 dm (i + 1)]
      exact Nat.and_le_right
    have hne : ¬ nI (zdq 16 dm (i + 1)) = 0 := nI_ne0 hp (by omega)
    rw [fm_findWays_L27, if_neg z10, zl_or, show S ||| zdq 16 dm i = zwy S dm i from rfl, hagr V hV _ hx, Option.bind_some, hz, if_neg hne, if_neg hne]
    cases hq : zso od fw fo (zwy S dm i) nf with
    | false =>
      rw [if_neg (show ¬ (false = true) by decide), if_pos rfl]
      have e1 := zsum_0 (p := fun i => zso od fw fo (zwy S dm i) nf) (g := fun _ => 1) (n := i) hq
      exact ih (i + 1) q V f (by omega) (by omega) hV (by rw [e1]; exact h23) (by rw [e1]; exact h10) (fun g => by
        rw [e1, zsum_0 (p := fun i => zso od fw fo (zwy S dm i) nf) (g := fun i => g (zwy S dm i)) (n := i) hq]; exact hsum g)
    | true =>
      have hc := zsum_le (p := fun i => zso od fw fo (zwy S dm i) nf) (g := fun _ => 1) (fun _ => Nat.le_refl _) i
      have e1 := zsum_1 (p := fun i => zso od fw fo (zwy S dm i) nf) (g := fun _ => 1) (n := i) hq
      rw [if_pos rfl, if_neg z10, h23]
      generalize hcc : zsum (fun i => zso od fw fo (zwy S dm i) nf) (fun _ => 1) i = c at *
      rw [zl_b (by omega), show decide (c < 64) = true from decide_eq_true (by omega), zl_cl c (by omega), nI_1]
      simp only [z_guard, if_true]
      refine ih (i + 1) q _ (vup f c (zwy S dm i)) (by omega) (by omega) (fun a j h1 h2 => by rw [zup_o (by omega), zup_o (by omega)]; exact hV a j h1 h2) (by rw [zup_y, e1]) (fun k hk => ?_) (fun g => ?_)
      · rw [e1] at hk
        rw [zup_o (by omega)]
        by_cases hkc : k = c
        · subst hkc; rw [zup_y, vup_s]; exact ⟨rfl, hx⟩
        · rw [zup_o (by omega), vup_n hkc]; exact h10 k (by omega)
      · have e2 := zsum_1 (p := fun i => zso od fw fo (zwy S dm i) nf) (g := fun i => g (zwy S dm i)) (n := i) hq
        rw [e1, e2, ← hsum g, zls, vup_s, zls_cg c (fun k hk => vup_n (by omega))]
