/-! the joins that a walk crosses an odd number of times -/
def zox (nj : Nat) (ea eb : Nat → Nat) (T : Nat → Nat → Option (Nat × Nat)) (eg : Nat → Nat) (p : Nat) : Nat → Nat
  | 0 => 0
  | k + 1 => zox nj ea eb T eg p k ^^^ (match jn ea eb nj (4 * (zpv T eg p k / 2) + eg k) with
    | none => 0
    | some j => 2 ^ j)
theorem zshl2 : ∀ k, k < 16 → (1 : Int32) <<< (nI k &&& 31) = nI (2 ^ k) := by decide +kernel
theorem c_joinOf {V : zI} {ns nj : Nat} {cs ea eb tt : Nat → Nat} (hw : wfG ns nj cs ea eb tt) (h : gC V ns nj cs ea eb tt) {p e : Nat} (hp : p < 2 * ns) (he : e < 4) : fc_Ground_joinOf V (nI p) (nI e) = some (jv (jn ea eb nj (4 * (p / 2) + e))) := by
  have hns := hw.1
  unfold fc_Ground_joinOf
  rw [k_4, k_2, zl_div _ _ (by omega) (by omega) (by omega), zl_mul, zl_add, c_hasEdge h.1 hns]
  have hk : ∃ k, k < 4 * ns ∧ nI (4 * (p / 2) + e) = nI k := ⟨4 * (p / 2) + e, by omega, rfl⟩
  simp only [hk, if_true, Option.bind_some, z10, if_false]
  rw [zl_b (by omega), show decide (4 * (p / 2) + e < 32) = true from decide_eq_true (by omega), zl_cl _ (by omega), h.2.2.2.2 _ (by omega)]
  simp only [z_guard, if_true]
theorem c_odd_L {I : zI} {ns nj nw : Nat} {cs ea eb tt : Nat → Nat} {T : Nat → Nat → Option (Nat × Nat)} {kd bg sp : Nat → Nat} {mk : Nat → Int32} {eg : Nat → Nat → Nat} (hG : wfG ns nj cs ea eb tt) (hg : gC I ns nj cs ea eb tt) (g1 : wfW ns nw kd bg sp mk eg) (g2 : wC I nw kd bg sp mk eg) {w p : Nat} (hw : w < nw) (hlt : ∀ i, i ≤ sp w → zpv T (eg w) p i < 2 * ns) (hj : ∀ k, k < sp w → jn ea eb nj (4 * (zpv T (eg w) p k / 2) + eg w k) ≠ none) (h1 : I 178 1 = nI (sp w)) (h2 : ∀ i, i ≤ sp w → I 179 i = nI (zpv T (eg w) p i)) : ∀ (m k fuel : Nat), k + m = sp w → m < fuel → fc_Walker_oddJoins_L5 I fuel (nI w) (nI (zox nj ea eb T (eg w) p k)) (nI k) = some (nI (zox nj ea eb T (eg w) p (sp w))) := by
  have hns := hG.1
  have hnj := hG.2.1
  have hnw := g1.1
  obtain ⟨a1, a2, a3, a4, a5⟩ := g1.2 w hw
  obtain ⟨b1, b2, b3, b4, b5⟩ := g2.2 w hw
  intro m
  induction m with
  | zero =>
    intro k fuel hk hf
    obtain ⟨f, rfl⟩ : ∃ f, fuel = f + 1 := ⟨fuel - 1, by omega⟩
    rw [fc_Walker_oddJoins_L5, h1, if_pos (nI_le (by omega) (by omega)), show k = sp w by omega]
  | succ m ih =>
    intro k fuel hk hf
    obtain ⟨f, rfl⟩ : ∃ f, fuel = f + 1 := ⟨fuel - 1, by omega⟩
    rw [fc_Walker_oddJoins_L5, h1, if_neg (nI_ge (by omega) (by omega)), zl_b (by omega), zl_b (by omega), zl_b (by omega), show decide (k < 9) = true from decide_eq_true (by omega), show decide (k < 8) = true from decide_eq_true (by omega), show decide (w < 10) = true from decide_eq_true (by omega), zl_cl k (by omega), zl_cl w (by omega), h2 k (by omega), b5 k (by omega), c_joinOf hG hg (hlt k (by omega)) (a5 k (by omega))]
    simp only [z_guard, if_true, Option.bind_some, nI_1]
    have i1 := ih (k + 1) f (by omega) (by omega)
    rw [zox] at i1
    cases e : jn ea eb nj (4 * (zpv T (eg w) p k / 2) + eg w k) with
    | none => exact absurd e (hj k (by omega))
    | some j =>
      rw [e] at i1
      have j1 := (jn_some e).1
      simp only [jv]
      rw [zshl2 j (by omega), zl_xor]
      exact i1
theorem zpl_cr {nj : Nat} {cs ea eb tt : Nat → Nat} {t : Option (List (Nat × Nat))} {eg : Nat → Nat} {p k q : Nat} (h : zpl (zcr nj cs ea eb tt t) eg p k = some q) : (jn ea eb nj (4 * (q / 2) + eg k) = none → zpl (zcr nj cs ea eb tt t) eg p (k + 1) = none) ∧ ∀ j, jn ea eb nj (4 * (q / 2) + eg k) = some j → zpl (zcr nj cs ea eb tt t) eg p (k + 1) = some (2 * ((if ea j = 4 * (q / 2) + eg k then eb j else ea j) / 4) + (q % 2 ^^^ tt j)) := by
  constructor
  · intro e
    rw [zpl, h, Option.bind_some]
    unfold zcr
    rw [e]; rfl
  · intro j e
    rw [zpl, h, Option.bind_some]
    unfold zcr
    rw [e]; rfl
theorem m_odd_L {J : zI} {ns nj nw : Nat} {cs ea eb tt : Nat → Nat} {t : Option (List (Nat × Nat))} {kd bg sp : Nat → Nat} {mk : Nat → Int32} {eg : Nat → Nat → Nat} (hG : wfG ns nj cs ea eb tt) (hg : gM (J 1) ns nj cs ea eb tt) (g1 : wfW ns nw kd bg sp mk eg) (g2 : wM (J 1) nw kd bg sp mk eg) {w p : Nat} (hw : w < nw) (hp : p < 2 * ns) : ∀ (m k fuel q : Nat), k + m = sp w → m < fuel → zpl (zcr nj cs ea eb tt t) (eg w) p k = some q → fm_oddOf_L12 J fuel (nI w) (nI (q / 2)) (nI (zox nj ea eb (zcr nj cs ea eb tt t) (eg w) p k)) (nI k) = some (if zpl (zcr nj cs ea eb tt t) (eg w) p (sp w) = none then -1 else nI (zox nj ea eb (zcr nj cs ea eb tt t) (eg w) p (sp w))) := by
  have hns := hG.1
  have hnj := hG.2.1
  have hnw := g1.1
  obtain ⟨a1, a2, a3, a4, a5⟩ := g1.2 w hw
  obtain ⟨b1, b2, b3, b4, b5⟩ := g2.2 w hw
  intro m
  induction m with
  | zero =>
    intro k fuel q hk hf hq
    obtain ⟨f, rfl⟩ : ∃ f, fuel = f + 1 := ⟨fuel - 1, by omega⟩
    have hkn : k = sp w := by omega
    rw [fm_oddOf_L12, k_2, m_walkOf (by omega) (by omega), b3, Option.bind_some, if_pos (nI_le (by omega) (by omega)), ← hkn, if_neg (by rw [hq]; exact fun e => by cases e)]
  | succ m ih =>
    intro k fuel q hk hf hq
    obtain ⟨f, rfl⟩ : ∃ f, fuel = f + 1 := ⟨fuel - 1, by omega⟩
    have hv : zpv (zcr nj cs ea eb tt t) (eg w) p k = q := by unfold zpv; rw [hq]; rfl
    have hql := zpl_lt (mk_wT hG t) (fun k hk => a5 k hk) hp (k := k) (by omega) hq
    have e1 := a5 k (by omega)
    have he : 4 * (q / 2) + eg w k < 32 := by omega
    obtain ⟨n1, n2⟩ := zpl_cr hq
    rw [fm_oddOf_L12, k_2, m_walkOf (by omega) (by omega), b3, Option.bind_some, if_neg (nI_ge (by omega) (by omega)), k_4, zl_add, m_walkOf (by omega) (by omega), show 66 + 12 * w + (4 + k) = 66 + 12 * w + 4 + k by omega, b5 k (by omega), Option.bind_some, zl_mul, zl_add, m_joinAt hG hg he, Option.bind_some]
    cases e : jn ea eb nj (4 * (q / 2) + eg w k) with
    | none =>
      have hz := zpl_none (n1 e) m
      rw [show k + 1 + m = sp w by omega] at hz
      rw [if_pos hz]
      rfl
    | some j =>
      have j1 := (jn_some e).1
      obtain ⟨d1, d2, d3, d4⟩ := hG.2.2.2.1 j j1
      have hO : (if ea j = 4 * (q / 2) + eg w k then eb j else ea j) < 32 := by split <;> omega
      have hx := zxor01 (a := q % 2) (by omega) d4
      have hnx := n2 j e
      have i1 := ih (k + 1) f _ (by omega) (by omega) hnx
      rw [zox, hv, e] at i1
      rw [if_pos (show (0 : Int32) ≤ jv (some j) from nI_pos' (by omega)), show jv (some j) = nI j from rfl, m_otherOf hG hg he j1, Option.bind_some, zl_div _ _ (by omega) (by omega) (by omega), zshl2 j (by omega), zl_xor, nI_1]
      rw [show (2 * ((if ea j = 4 * (q / 2) + eg w k then eb j else ea j) / 4) + (q % 2 ^^^ tt j)) / 2 = (if ea j = 4 * (q / 2) + eg w k then eb j else ea j) / 4 by omega] at i1
      exact i1
