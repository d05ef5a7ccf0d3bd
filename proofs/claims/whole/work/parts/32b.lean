/-! the joins that a walk crosses an odd number of times -/
def zox (nj : Nat) (ea eb : Nat → Nat) (T : Nat → Nat → Option (Nat × Nat)) (eg : Nat → Nat) (p : Nat) : Nat → Nat
  | 0 => 0
  | k + 1 => zox nj ea eb T eg p k ^^^ (match jn ea eb nj (4 * (zpv T eg p k / 2) + eg k) with
    | none => 0
    | some j => 2 ^ j)
theorem zshl2 : ∀ k, k < 16 → (1 : Int32) <<< (nI k &&& 31) = nI (2 ^ k) := by decide +kernel
theorem c_joinOf {V : zI} {ns nj : Nat} {cs ea eb tt : Nat → Nat} (hw : wfG ns nj cs ea eb tt) (h : gC V ns nj cs ea eb tt) {p e : Nat} (hp : p < 2 * ns) (he : e < 4) : fc_Ground_joinOf V (nI p) (nI e) = some (jv (jn ea eb nj (4 * (p / 2) + e))) := by
  have hns := hw.1
  unfold fc_Ground_joinOf
  rw [k_4, k_2, zl_div _ _ (by omega) (by omega) (by omega), zl_mul, zl_add, c_hasEdge h.1 hns]
  have hk : ∃ k, k < 4 * ns ∧ nI (4 * (p / 2) + e) = nI k := ⟨4 * (p / 2) + e, by omega, rfl⟩
  simp only [hk, if_true, Option.bind_some, z10, if_false]
  rw [zl_b (by omega), show decide (4 * (p / 2) + e < 32) = true from decide_eq_true (by omega), zl_cl _ (by omega), h.2.2.2.2 _ (by omega)]
  simp only [z_guard, if_true]
theorem c_odd_L {I : zI} {ns nj nw : Nat} {cs ea eb tt : Nat → Nat} {T : Nat → Nat → Option (Nat × Nat)} {kd bg sp : Nat → Nat} {mk : Nat → Int32} {eg : Nat → Nat → Nat} (hG : wfG ns nj cs ea eb tt) (hg : gC I ns nj cs ea eb tt) (g1 : wfW ns nw kd bg sp mk eg) (g2 : wC I nw kd bg sp mk eg) {w p : Nat} (hw : w < nw) (hlt : ∀ i, i ≤ sp w → zpv T (eg w) p i < 2 * ns) (hj : ∀ k, k < sp w → jn ea eb nj (4 * (zpv T (eg w) p k / 2) + eg w k) ≠ none) (h1 : I 178 1 = nI (sp w)) (h2 : ∀ i, i ≤ sp w → I 179 i = nI (zpv T (eg w) p i)) : ∀ (m k fuel : Nat), k + m = sp w → m < fuel → fc_Walker_oddJoins_L5 I fuel (nI w) (nI (zox nj ea eb T (eg w) p k)) (nI k) = some (nI (zox nj ea eb T (eg w) p (sp w))) := by
  have hns := hG.1
  have hnj := hG.2.1
  have hnw := g1.1
  obtain ⟨a1, a2, a3, a4, a5⟩ := g1.2 w hw
  obtain ⟨b1, b2, b3, b4, b5⟩ := g2.2 w hw
  intro m
  induction m with
  | zero =>
    intro k fuel hk hf
    obtain ⟨f, rfl⟩ : ∃ f, fuel = f + 1 := ⟨fuel - 1, by omega⟩
    rw [fc_Walker_oddJoins_L5, h1, if_pos (nI_le (by omega) (by omega)), show k = sp w by omega]
  | succ m ih =>
    intro k fuel hk hf
    obtain ⟨f, rfl⟩ : ∃ f, fuel = f + 1 := ⟨fuel - 1, by omega⟩
    rw [fc_Walker_oddJoins_L5, h1, if_neg (nI_ge (by omega) (by omega)), zl_b (by omega), zl_b (by omega), zl_b (by omega), show decide (k < 9) = true from decide_eq_true (by omega), show decide (k < 8) = true from decide_eq_true (by omega), show decide (w < 10) = true from decide_eq_true (by omega), zl_cl k (by omega), zl_cl w (by omega), h2 k (by omega), b5 k (by omega), c_joinOf hG hg (hlt k (by omega)) (a5 k (by omega))]
    simp only [z_guard, if_true, Option.bind_some, nI_1]
    have i1 := ih (k + 1) f (by omega) (by omega)
    rw [zox] at i1
    cases e : jn ea eb nj (4 * (zpv T (eg w) p k / 2) + eg w k) with
    | none => exact absurd e (hj k (by omega))
    | some j =>
      rw [e] at i1
      have j1 := (jn_some e).1
      simp only [jv]
      rw [zshl2 j (by omega), zl_xor]
      exact i1
