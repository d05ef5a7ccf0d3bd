/-! corners and rims -/
theorem c_begin_L {N : Nat} (hN : N ≤ 32) : ∀ (m k fuel : Nat) (V : zI), k + m = N → m < fuel → (∀ i, i < k → V 102 i = nI i) → ∃ V', fc_Shape_begin_L2 fuel (nI N) (nI k) V = some V' ∧ (∀ i, i < N → V' 102 i = nI i) ∧ ∀ c j, c ≠ 102 → V' c j = V c j
  | 0, k, fuel, V, hk, hf, h => by
    obtain ⟨f, rfl⟩ : ∃ g, fuel = g + 1 := ⟨fuel - 1, by omega⟩
    exact ⟨V, by rw [fc_Shape_begin_L2, if_pos (nI_le (by omega) (by omega))], fun i hi => h i (by omega), fun _ _ _ => rfl⟩
  | m + 1, k, fuel, V, hk, hf, h => by
    obtain ⟨f, rfl⟩ : ∃ g, fuel = g + 1 := ⟨fuel - 1, by omega⟩
    obtain ⟨V', r1, r2, r3⟩ := c_begin_L hN m (k + 1) f (zup V 102 k (nI k)) (by omega) (by omega) (fun i hi => by
      by_cases e : i = k
      · subst e; rw [zup_y]
      · rw [zup_o (by omega)]; exact h i (by omega))
    refine ⟨V', ?_, r2, fun c j hc => by rw [r3 c j hc, zup_o (by omega)]⟩
    rw [fc_Shape_begin_L2, if_neg (nI_ge (by omega) (by omega)), zl_b (by omega), show decide (k < 32) = true from decide_eq_true (by omega), zl_cl k (by omega), nI_1]
    exact r1
theorem c_begin {V : zI} {N : Nat} (hN : N ≤ 32) : ∃ V', fc_Shape_begin V (nI N) = some V' ∧ (∀ i, i < N → V' 102 i = nI i) ∧ ∀ c j, c ≠ 102 → V' c j = V c j := c_begin_L hN N 0 100 V (by omega) (by omega) (fun i hi => by omega)
theorem c_make_L {N : Nat} {f : Nat → Nat} {a b : Nat} (hN : N ≤ 32) (hf : zlw N f) (ha : a < N) (hb : b < N) : ∀ (m k fuel : Nat) (V : zI), k + m = N → m < fuel → (∀ i, i < k → V 102 i = nI (zun f a b i)) → (∀ i, k ≤ i → i < N → V 102 i = nI (f i)) → ∃ V', fc_Shape_makeOne_L27 fuel (nI N) (nI (f a)) (nI (f b)) (nI k) V = some V' ∧ (∀ i, i < N → V' 102 i = nI (zun f a b i)) ∧ ∀ c j, c ≠ 102 → V' c j = V c j
  | 0, k, fuel, V, hk, hfu, h1, h2 => by
    obtain ⟨F, rfl⟩ : ∃ g, fuel = g + 1 := ⟨fuel - 1, by omega⟩
    exact ⟨V, by rw [fc_Shape_makeOne_L27, if_pos (nI_le (by omega) (by omega))], fun i hi => h1 i (by omega), fun _ _ _ => rfl⟩
  | m + 1, k, fuel, V, hk, hfu, h1, h2 => by
    obtain ⟨F, rfl⟩ : ∃ g, fuel = g + 1 := ⟨fuel - 1, by omega⟩
    have fk := (hf k (by omega)).1
    have fb := (hf b hb).1
    rw [fc_Shape_makeOne_L27, if_neg (nI_ge (by omega) (by omega)), zl_b (by omega), show decide (k < 32) = true from decide_eq_true (by omega), zl_cl k (by omega), h2 k (Nat.le_refl _) (by omega), nI_1]
    simp only [z_guard, if_true]
    by_cases e : f k = f b
    · rw [if_pos (show nI (f k) = nI (f b) by rw [e])]
      obtain ⟨V', r1, r2, r3⟩ := c_make_L hN hf ha hb m (k + 1) F (zup V 102 k (nI (f a))) (by omega) (by omega) (fun i hi => by
        by_cases e2 : i = k
        · subst e2; rw [zup_y]; unfold zun; rw [if_pos e]
        · rw [zup_o (by omega)]; exact h1 i (by omega)) (fun i hi hi2 => by rw [zup_o (by omega)]; exact h2 i (by omega) hi2)
      exact ⟨V', r1, r2, fun c j hc => by rw [r3 c j hc, zup_o (by omega)]⟩
    · rw [if_neg (show ¬ nI (f k) = nI (f b) from fun q => e ((nI_eq (by omega) (by omega)).mp q))]
      exact c_make_L hN hf ha hb m (k + 1) F V (by omega) (by omega) (fun i hi => by
        by_cases e2 : i = k
        · subst e2; rw [h2 i (Nat.le_refl _) (by omega)]; unfold zun; rw [if_neg e]
        · exact h1 i (by omega)) (fun i hi hi2 => h2 i (by omega) hi2)
theorem c_makeOne {V : zI} {N : Nat} {f : Nat → Nat} {a b : Nat} (hN : N ≤ 32) (hf : zlw N f) (ha : a < N) (hb : b < N) (h : ∀ i, i < N → V 102 i = nI (f i)) : ∃ V', fc_Shape_makeOne V (nI N) (nI a) (nI b) = some V' ∧ (∀ i, i < N → V' 102 i = nI (zun f a b i)) ∧ ∀ c j, c ≠ 102 → V' c j = V c j := by
  have fa := (hf a ha).1
  have fb := (hf b hb).1
  unfold fc_Shape_makeOne
  rw [zl_b (by omega), show decide (a < 32) = true from decide_eq_true (by omega), zl_b (by omega), show decide (b < 32) = true from decide_eq_true (by omega), zl_cl a (by omega), zl_cl b (by omega), h a ha, h b hb]
  simp only [z_guard, if_true]
  by_cases e : f a = f b
  · rw [if_pos (show nI (f a) = nI (f b) by rw [e])]
    refine ⟨V, rfl, fun i hi => ?_, fun _ _ _ => rfl⟩
    rw [h i hi]
    unfold zun
    by_cases e2 : f i = f b
    · rw [if_pos e2]; congr 1; omega
    · rw [if_neg e2]
  · rw [if_neg (show ¬ nI (f a) = nI (f b) from fun q => e ((nI_eq (by omega) (by omega)).mp q))]
    exact c_make_L hN hf ha hb N 0 100 V (by omega) (by omega) (fun i hi => by omega) (fun i _ hi => h i hi)
theorem m_one_L {ns N : Nat} {g : Nat → Nat} {x y : Nat} (hns : ns ≤ 8) (hN : N = 4 * ns) (hg : zlw N g) (hx : x < N) (hy : y < N) : ∀ (m k fuel : Nat) (U : zI), k + m = N → m < fuel → U 1 0 = nI ns → (∀ i, i < k → U 4 i = nI (zun g x y i)) → (∀ i, k ≤ i → i < N → U 4 i = nI (g i)) → ∃ U', fm_oneOf_L36 fuel (nI (g x)) (nI (g y)) (nI k) U = some U' ∧ (∀ i, i < N → U' 4 i = nI (zun g x y i)) ∧ ∀ c j, c ≠ 4 → U' c j = U c j
  | 0, k, fuel, U, hk, hfu, h0, h1, h2 => by
    obtain ⟨F, rfl⟩ : ∃ g, fuel = g + 1 := ⟨fuel - 1, by omega⟩
    exact ⟨U, by rw [fm_oneOf_L36, zcl0, h0, show (4 : Int32) * nI ns = nI (4 * ns) from zl_mul 4 ns, if_pos (nI_le (by omega) (by omega))], fun i hi => h1 i (by omega), fun _ _ _ => rfl⟩
  | m + 1, k, fuel, U, hk, hfu, h0, h1, h2 => by
    obtain ⟨F, rfl⟩ : ∃ g, fuel = g + 1 := ⟨fuel - 1, by omega⟩
    have fk := (hg k (by omega)).1
    have fb := (hg y hy).1
    rw [fm_oneOf_L36, zcl0, h0, show (4 : Int32) * nI ns = nI (4 * ns) from zl_mul 4 ns, if_neg (nI_ge (by omega) (by omega)), zl_b (by omega), show decide (k < 32) = true from decide_eq_true (by omega), zl_cl k (by omega), h2 k (Nat.le_refl _) (by omega), nI_1]
    simp only [z_guard, if_true]
    have hgo : ∀ v : Int32, v = nI (zun g x y k) → ∃ U', fm_oneOf_L36 F (nI (g x)) (nI (g y)) (nI (k + 1)) (zup U 4 k v) = some U' ∧ (∀ i, i < N → U' 4 i = nI (zun g x y i)) ∧ ∀ c j, c ≠ 4 → U' c j = U c j := fun v hv => by
      obtain ⟨U', r1, r2, r3⟩ := m_one_L hns hN hg hx hy m (k + 1) F (zup U 4 k v) (by omega) (by omega) (by rw [zup_o (by omega)]; exact h0) (fun i hi => by
        by_cases e2 : i = k
        · subst e2; rw [zup_y, hv]
        · rw [zup_o (by omega)]; exact h1 i (by omega)) (fun i hi hi2 => by rw [zup_o (by omega)]; exact h2 i (by omega) hi2)
      exact ⟨U', r1, r2, fun c j hc => by rw [r3 c j hc, zup_o (by omega)]⟩
    by_cases e : g k = g y
    · rw [if_pos (show nI (g k) = nI (g y) by rw [e])]
      exact hgo _ (by unfold zun; rw [if_pos e])
    · rw [if_neg (show ¬ nI (g k) = nI (g y) from fun q => e ((nI_eq (by omega) (by omega)).mp q))]
      exact hgo _ (by unfold zun; rw [if_neg e])
theorem m_oneOf {U : zI} {ns N : Nat} {g : Nat → Nat} {a b : Nat} (hns : ns ≤ 8) (hN : N = 4 * ns) (hg : zlw N g) (ha : a < N) (hb : b < N) (h0 : U 1 0 = nI ns) (h : ∀ i, i < N → U 4 i = nI (g i)) : ∃ U' x y, (x = a ∧ y = b ∨ x = b ∧ y = a) ∧ fm_oneOf U (nI a) (nI b) = some U' ∧ (∀ i, i < N → U' 4 i = nI (zun g x y i)) ∧ ∀ c j, c ≠ 4 → U' c j = U c j := by
  have fa := (hg a ha).1
  have fb := (hg b hb).1
  unfold fm_oneOf
  rw [zl_b (by omega), show decide (a < 32) = true from decide_eq_true (by omega), zl_b (by omega), show decide (b < 32) = true from decide_eq_true (by omega), zl_cl a (by omega), zl_cl b (by omega), h a ha, h b hb, zl_min (by omega) (by omega), zl_max (by omega) (by omega)]
  simp only [z_guard, if_true]
  by_cases e : g b < g a
  · obtain ⟨U', r1, r2, r3⟩ := m_one_L hns hN hg hb ha N 0 100 U (by omega) (by omega) h0 (fun i hi => by omega) (fun i _ hi => h i hi)
    refine ⟨U', b, a, Or.inr ⟨rfl, rfl⟩, ?_, r2, r3⟩
    rw [if_pos e, if_neg (by omega)]
    exact r1
  · obtain ⟨U', r1, r2, r3⟩ := m_one_L hns hN hg ha hb N 0 100 U (by omega) (by omega) h0 (fun i hi => by omega) (fun i _ hi => h i hi)
    refine ⟨U', a, b, Or.inl ⟨rfl, rfl⟩, ?_, r2, r3⟩
    rw [if_neg e, show (if g a < g b then g b else g a) = g b by split <;> omega]
    exact r1
def zsec (e : Nat) : Nat := if e % 4 = 3 then e - 3 else e + 1
theorem zsec_lt {e ns : Nat} (h : e < 4 * ns) : zsec e < 4 * ns := by
  unfold zsec
  split <;> omega
theorem c_sec (I : zI) {e : Nat} (he : e < 32) : fc_Shape_secondCorner I (nI e) = some (nI (zsec e)) := by
  unfold fc_Shape_secondCorner zsec
  rw [show nI e % (4 : Int32) = nI (e % 4) from zl_mod e 4 (by omega) (by omega) (by omega)]
  by_cases h : e % 4 = 3
  · rw [if_pos (show nI (e % 4) = (3 : Int32) by rw [h]; rfl), if_pos h, show nI e - (3 : Int32) = nI (e - 3) from zl_sub e 3 (by omega)]
  · rw [if_neg (show ¬ nI (e % 4) = (3 : Int32) from nI_nec (c := 3) (by omega) (by omega) h), if_neg h, nI_1]
theorem m_sec (I : zI) {e : Nat} (he : e < 32) : fm_second I (nI e) = some (nI (zsec e)) := by
  unfold fm_second zsec
  rw [nI_1, show nI e / (4 : Int32) = nI (e / 4) from zl_div e 4 (by omega) (by omega) (by omega), show nI (e + 1) % (4 : Int32) = nI ((e + 1) % 4) from zl_mod (e + 1) 4 (by omega) (by omega) (by omega), show nI (e / 4) * (4 : Int32) = nI (e / 4 * 4) from zl_mul (e / 4) 4, zl_add]
  congr 2
  split <;> omega
/-- both hold the same things as one -/
def zcs (N : Nat) (V U : zI) (f g : Nat → Nat) : Prop := (∀ i, i < N → V 102 i = nI (f i)) ∧ (∀ i, i < N → U 4 i = nI (g i)) ∧ zsm N f g
theorem zuni {ns N : Nat} {V U : zI} {f g : Nat → Nat} (hns : ns ≤ 8) (hN : N = 4 * ns) (h : zcs N V U f g) (h0 : U 1 0 = nI ns) {a b : Nat} (ha : a < N) (hb : b < N) : ∃ V' U' f' g', fc_Shape_makeOne V (nI N) (nI a) (nI b) = some V' ∧ fm_oneOf U (nI a) (nI b) = some U' ∧ zcs N V' U' f' g' ∧ (∀ c j, c ≠ 102 → V' c j = V c j) ∧ ∀ c j, c ≠ 4 → U' c j = U c j := by
  obtain ⟨h1, h2, h3⟩ := h
  obtain ⟨V', r1, r2, r3⟩ := c_makeOne (show N ≤ 32 by omega) h3.1 ha hb h1
  obtain ⟨U', x, y, hxy, s1, s2, s3⟩ := m_oneOf hns hN h3.2.1 ha hb h0 h2
  exact ⟨V', U', _, _, r1, s1, ⟨r2, s2, zsm_un h3 ha hb hxy⟩, r3, s3⟩
theorem zcorn_L {ns nj N : Nat} {cs ea eb tt : Nat → Nat} (hG : wfG ns nj cs ea eb tt) (hN : N = 4 * ns) : ∀ (m k fC fM : Nat) (V U : zI) (f g : Nat → Nat), k + m = nj → m < fC → m < fM → gC V ns nj cs ea eb tt → gM (U 1) ns nj cs ea eb tt → zcs N V U f g → ∃ V' U' f' g', fc_Shape_makeCornersOne_L14 fC (nI N) (nI k) V = some V' ∧ fm_findCorners_L23 fM (nI k) U = some U' ∧ zcs N V' U' f' g' ∧ (∀ c j, c ≠ 102 → V' c j = V c j) ∧ ∀ c j, c ≠ 4 → U' c j = U c j := by
  have hns := hG.1
  have hnj := hG.2.1
  intro m
  induction m with
  | zero =>
    intro k fC fM V U f g hk h1 h2 hV hU hz
    obtain ⟨fC, rfl⟩ : ∃ g, fC = g + 1 := ⟨fC - 1, by omega⟩
    obtain ⟨fM, rfl⟩ : ∃ g, fM = g + 1 := ⟨fM - 1, by omega⟩
    exact ⟨V, U, f, g, by rw [fc_Shape_makeCornersOne_L14, hV.2.1, if_pos (nI_le (by omega) (by omega))], by rw [fm_findCorners_L23, zcl1, hU.2.1, if_pos (nI_le (by omega) (by omega))], hz, fun _ _ _ => rfl, fun _ _ _ => rfl⟩
  | succ m ih =>
    intro k fC fM V U f g hk h1 h2 hV hU hz
    obtain ⟨fC, rfl⟩ : ∃ g, fC = g + 1 := ⟨fC - 1, by omega⟩
    obtain ⟨fM, rfl⟩ : ∃ g, fM = g + 1 := ⟨fM - 1, by omega⟩
    obtain ⟨a1, a2, a3, a4⟩ := hG.2.2.2.1 k (by omega)
    obtain ⟨b1, b2, b3⟩ := hV.2.2.2.1 k (by omega)
    obtain ⟨d1, d2, d3⟩ := hU.2.2.2 k (by omega)
    have j0 : fm_joinOf U (nI k) (0 : Int32) = some (nI (ea k)) := by rw [show (0 : Int32) = nI 0 from rfl, m_joinOf (by omega) (by omega), Nat.add_zero, d1]
    have j1 : fm_joinOf U (nI k) (1 : Int32) = some (nI (eb k)) := by rw [show (1 : Int32) = nI 1 from rfl, m_joinOf (by omega) (by omega), d2]
    have j2 : fm_joinOf U (nI k) (2 : Int32) = some (nI (tt k)) := by rw [show (2 : Int32) = nI 2 from rfl, m_joinOf (by omega) (by omega), d3]
    have s1 := zsec_lt a1
    have s2 := zsec_lt a2
    have key : ∀ p q r s, p < N → q < N → r < N → s < N → ∃ V1 U1 V' U' f' g', fc_Shape_makeOne V (nI N) (nI p) (nI q) = some V1 ∧ fm_oneOf U (nI p) (nI q) = some U1 ∧ fc_Shape_makeOne V1 (nI N) (nI r) (nI s) = some V' ∧ fm_oneOf U1 (nI r) (nI s) = some U' ∧ zcs N V' U' f' g' ∧ (∀ c j, c ≠ 102 → V' c j = V c j) ∧ ∀ c j, c ≠ 4 → U' c j = U c j := fun p q r s hp hq hr hs => by
      obtain ⟨V1, U1, f1, g1, x1, x2, x3, x4, x5⟩ := zuni hns hN hz hU.1 hp hq
      obtain ⟨V2, U2, f2, g2, y1, y2, y3, y4, y5⟩ := zuni hns hN x3 (by rw [x5 1 0 (by omega)]; exact hU.1) hr hs
      exact ⟨V1, U1, V2, U2, f2, g2, x1, x2, y1, y2, y3, fun c j hc => by rw [y4 c j hc, x4 c j hc], fun c j hc => by rw [y5 c j hc, x5 c j hc]⟩
    have fin : ∀ (V1 U1 : zI) (f1 g1 : Nat → Nat), zcs N V1 U1 f1 g1 → (∀ c j, c ≠ 102 → V1 c j = V c j) → (∀ c j, c ≠ 4 → U1 c j = U c j) → ∃ V' U' f' g', fc_Shape_makeCornersOne_L14 fC (nI N) (nI (k + 1)) V1 = some V' ∧ fm_findCorners_L23 fM (nI (k + 1)) U1 = some U' ∧ zcs N V' U' f' g' ∧ (∀ c j, c ≠ 102 → V' c j = V c j) ∧ ∀ c j, c ≠ 4 → U' c j = U c j := fun V1 U1 f1 g1 z1 z2 z3 => by
      obtain ⟨V', U', f', g', w1, w2, w3, w4, w5⟩ := ih (k + 1) fC fM V1 U1 f1 g1 (by omega) (by omega) (by omega) (gC_cg hV (fun c j h1 h2 => z2 c j (by omega))) (gM_cg ⟨hns, hnj⟩ hU (fun j _ => z3 1 j (by omega))) z1
      exact ⟨V', U', f', g', w1, w2, w3, fun c j hc => by rw [w4 c j hc, z2 c j hc], fun c j hc => by rw [w5 c j hc, z3 c j hc]⟩
    rw [fc_Shape_makeCornersOne_L14, hV.2.1, if_neg (nI_ge (by omega) (by omega)), show (2 : Int32) * nI k = nI (2 * k) from zl_mul 2 k, nI_1, nI_1, zl_b (by omega), show decide (2 * k < 32) = true from decide_eq_true (by omega), zl_b (by omega), show decide (2 * k + 1 < 32) = true from decide_eq_true (by omega), zl_b (by omega), show decide (k < 16) = true from decide_eq_true (by omega), zl_cl _ (by omega), zl_cl _ (by omega), zl_cl _ (by omega), b1, b2, b3]
    rw [fm_findCorners_L23, zcl1, hU.2.1, if_neg (nI_ge (by omega) (by omega)), j0, j1, j2, nI_1, Option.bind_some, Option.bind_some, Option.bind_some]
    simp only [z_guard, if_true]
    by_cases ht : tt k = 1
    · obtain ⟨V1, U1, V2, U2, f2, g2, k1, k2, k3, k4, k5, k6, k7⟩ := key (ea k) (eb k) (zsec (ea k)) (zsec (eb k)) (by omega) (by omega) (by omega) (by omega)
      rw [if_pos (show nI (tt k) = (1 : Int32) by rw [ht]; rfl), if_pos (show nI (tt k) = (1 : Int32) by rw [ht]; rfl), k1, k2, Option.bind_some, Option.bind_some, c_sec V1 (by omega), c_sec V1 (by omega), m_sec U1 (by omega), m_sec U1 (by omega), Option.bind_some, Option.bind_some, Option.bind_some, Option.bind_some, k3, k4, Option.bind_some, Option.bind_some]
      exact fin V2 U2 f2 g2 k5 k6 k7
    · have hne : ¬ nI (tt k) = (1 : Int32) := nI_nec (c := 1) (by omega) (by omega) ht
      obtain ⟨V1, U1, V2, U2, f2, g2, k1, k2, k3, k4, k5, k6, k7⟩ := key (ea k) (zsec (eb k)) (zsec (ea k)) (eb k) (by omega) (by omega) (by omega) (by omega)
      rw [if_neg hne, if_neg hne, c_sec V (by omega), m_sec U (by omega), Option.bind_some, Option.bind_some, k1, k2, Option.bind_some, Option.bind_some, c_sec V1 (by omega), m_sec U1 (by omega), Option.bind_some, Option.bind_some, k3, k4, Option.bind_some, Option.bind_some]
      exact fin V2 U2 f2 g2 k5 k6 k7
theorem m_fc2 {ns nj N : Nat} : ∀ (m k fuel : Nat) (U : zI), k + m = 32 → m < fuel → (∀ i, i < k → U 4 i = nI i) → ∃ U1, fm_findCorners_L2 fuel (nI k) U = fm_findCorners_L23 100 (0 : Int32) U1 ∧ (∀ i, i < 32 → U1 4 i = nI i) ∧ ∀ c j, c ≠ 4 → U1 c j = U c j
  | 0, k, fuel, U, hk, hf, h => by
    obtain ⟨f, rfl⟩ : ∃ g, fuel = g + 1 := ⟨fuel - 1, by omega⟩
    have hk4 : k = 32 := by omega
    subst hk4
    exact ⟨U, by rw [fm_findCorners_L2, if_pos (show (32 : Int32) ≤ nI 32 by decide)], h, fun _ _ _ => rfl⟩
  | m + 1, k, fuel, U, hk, hf, h => by
    obtain ⟨f, rfl⟩ : ∃ g, fuel = g + 1 := ⟨fuel - 1, by omega⟩
    obtain ⟨U1, r1, r2, r3⟩ := m_fc2 (ns := ns) (nj := nj) (N := N) m (k + 1) f (zup U 4 k (nI k)) (by omega) (by omega) (fun i hi => by
      by_cases e : i = k
      · subst e; rw [zup_y]
      · rw [zup_o (by omega)]; exact h i (by omega))
    refine ⟨U1, ?_, r2, fun c j hc => by rw [r3 c j hc, zup_o (by omega)]⟩
    rw [fm_findCorners_L2, if_neg (show ¬ (32 : Int32) ≤ nI k from nI_ge (b := 32) (by omega) (by omega)), zl_b (by omega), show decide (k < 32) = true from decide_eq_true (by omega), zl_cl k (by omega), nI_1]
    exact r1
theorem zcorners {I J : zI} {ns nj : Nat} {cs ea eb tt : Nat → Nat} (hG : wfG ns nj cs ea eb tt) (hV : gC I ns nj cs ea eb tt) (hU : gM (J 1) ns nj cs ea eb tt) : ∃ V' U' f' g', fc_Shape_makeCornersOne I = some V' ∧ fm_findCorners J = some U' ∧ zcs (4 * ns) V' U' f' g' ∧ (∀ c j, c ≠ 102 → V' c j = I c j) ∧ ∀ c j, c ≠ 4 → U' c j = J c j := by
  have hns := hG.1
  have hnj := hG.2.1
  obtain ⟨V1, r1, r2, r3⟩ := c_begin (V := I) (N := 4 * ns) (by omega)
  obtain ⟨U1, s1, s2, s3⟩ := m_fc2 (ns := ns) (nj := nj) (N := 4 * ns) 32 0 100 J (by omega) (by omega) (fun i hi => by omega)
  obtain ⟨V', U', f', g', w1, w2, w3, w4, w5⟩ := zcorn_L hG rfl nj 0 100 100 V1 U1 (fun i => i) (fun i => i) (by omega) (by omega) (by omega) (gC_cg hV (fun c j h1 h2 => r3 c j (by omega))) (gM_cg ⟨hns, hnj⟩ hU (fun j _ => s3 1 j (by omega))) ⟨r2, fun i hi => s2 i (by omega), fun i hi => ⟨hi, rfl⟩, fun i hi => ⟨hi, rfl⟩, fun i j _ _ => Iff.rfl⟩
  refine ⟨V', U', f', g', ?_, ?_, w3, fun c j hc => by rw [w4 c j hc, r3 c j hc], fun c j hc => by rw [w5 c j hc, s3 c j hc]⟩
  · unfold fc_Shape_makeCornersOne
    rw [hV.1, show (4 : Int32) * nI ns = nI (4 * ns) from zl_mul 4 ns, r1, Option.bind_some]
    exact w1
  · unfold fm_findCorners
    rw [show (0 : Int32) = nI 0 from rfl, s1]
    exact w2
theorem c_left_L {V : zI} {N : Nat} {f : Nat → Nat} (hN : N ≤ 32) (h : ∀ i, i < N → V 102 i = nI (f i) ∧ f i < 32) : ∀ (m k fuel : Nat), k + m = N → m < fuel → fc_Shape_labelsLeft_L4 V fuel (nI N) (nI (zsum (fun i => f i == i) (fun _ => 1) k)) (nI k) = some (nI (zsum (fun i => f i == i) (fun _ => 1) N))
  | 0, k, fuel, hk, hf => by
    obtain ⟨F, rfl⟩ : ∃ g, fuel = g + 1 := ⟨fuel - 1, by omega⟩
    rw [fc_Shape_labelsLeft_L4, if_pos (nI_le (by omega) (by omega)), show k = N by omega]
  | m + 1, k, fuel, hk, hf => by
    obtain ⟨F, rfl⟩ : ∃ g, fuel = g + 1 := ⟨fuel - 1, by omega⟩
    obtain ⟨h1, h2⟩ := h k (by omega)
    have i1 := c_left_L hN h m (k + 1) F (by omega) (by omega)
    rw [fc_Shape_labelsLeft_L4, if_neg (nI_ge (by omega) (by omega)), zl_b (by omega), show decide (k < 32) = true from decide_eq_true (by omega), zl_cl k (by omega), h1, nI_1, nI_1]
    simp only [z_guard, if_true]
    by_cases e : f k = k
    · rw [if_pos (show nI (f k) = nI k by rw [e])]
      rw [zsum_1 (p := fun i => f i == i) (n := k) (beq_iff_eq.mpr e)] at i1
      exact i1
    · rw [if_neg (show ¬ nI (f k) = nI k from fun q => e ((nI_eq (by omega) (by omega)).mp q))]
      rw [zsum_0 (p := fun i => f i == i) (n := k) (beq_eq_false_iff_ne.mpr e)] at i1
      exact i1
theorem m_left_L {U : zI} {ns N : Nat} {g : Nat → Nat} (hns : ns ≤ 8) (hN : N = 4 * ns) (h0 : U 1 0 = nI ns) (h : ∀ i, i < N → U 4 i = nI (g i) ∧ g i < 32) : ∀ (m k fuel : Nat), k + m = N → m < fuel → fm_cornersNow_L8 fuel (nI (zsum (fun i => g i == i) (fun _ => 1) k)) (nI k) U = some (nI (zsum (fun i => g i == i) (fun _ => 1) N), U)
  | 0, k, fuel, hk, hf => by
    obtain ⟨F, rfl⟩ : ∃ g, fuel = g + 1 := ⟨fuel - 1, by omega⟩
    rw [fm_cornersNow_L8, zcl0, h0, show (4 : Int32) * nI ns = nI (4 * ns) from zl_mul 4 ns, if_pos (nI_le (by omega) (by omega)), show k = N by omega]
  | m + 1, k, fuel, hk, hf => by
    obtain ⟨F, rfl⟩ : ∃ g, fuel = g + 1 := ⟨fuel - 1, by omega⟩
    obtain ⟨h1, h2⟩ := h k (by omega)
    have i1 := m_left_L hns hN h0 h m (k + 1) F (by omega) (by omega)
    rw [fm_cornersNow_L8, zcl0, h0, show (4 : Int32) * nI ns = nI (4 * ns) from zl_mul 4 ns, if_neg (nI_ge (by omega) (by omega)), zl_b (by omega), show decide (k < 32) = true from decide_eq_true (by omega), zl_cl k (by omega), h1, nI_1, nI_1, Int32.add_zero]
    simp only [z_guard, if_true]
    by_cases e : g k = k
    · rw [if_pos (show nI (g k) = nI k by rw [e])]
      rw [zsum_1 (p := fun i => g i == i) (n := k) (beq_iff_eq.mpr e)] at i1
      exact i1
    · rw [if_neg (show ¬ nI (g k) = nI k from fun q => e ((nI_eq (by omega) (by omega)).mp q))]
      rw [zsum_0 (p := fun i => g i == i) (n := k) (beq_eq_false_iff_ne.mpr e)] at i1
      exact i1
