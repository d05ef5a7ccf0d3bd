/-! coming home with the other hand -/
def zqE (ea eb tt : Nat → Nat) (j p q : Nat) (x : Bool) : Prop := (p = ea j / 4 ∧ q = eb j / 4 ∨ p = eb j / 4 ∧ q = ea j / 4) ∧ x = (tt j == 1)
def zqX (nj : Nat) (ea eb tt : Nat → Nat) (X : Nat → Bool) (p q : Nat) (x : Bool) : Prop := ∃ j, j < nj ∧ X j = false ∧ zqE ea eb tt j p q x
def zqp (E : Nat → Nat → Bool → Prop) : Nat → Nat → Nat → Bool → Prop
  | 0, a, b, x => a = b ∧ x = false
  | n + 1, a, b, x => ∃ p y z, zqp E n a p y ∧ E p b z ∧ x = (y != z)
def zqh (nj : Nat) (ea eb tt : Nat → Nat) (X : Nat → Bool) (a b : Nat) (x : Bool) : Prop := ∃ n, zqp (zqX nj ea eb tt X) n a b x
theorem zxb (x y z : Bool) : ((x != y) != z) = (x != (y != z)) := by cases x <;> cases y <;> cases z <;> rfl
theorem zqh_refl {nj : Nat} {ea eb tt : Nat → Nat} {X : Nat → Bool} (a : Nat) : zqh nj ea eb tt X a a false := ⟨0, rfl, rfl⟩
theorem zqp_trans {E : Nat → Nat → Bool → Prop} {a b : Nat} {x : Bool} {m : Nat} (h : zqp E m a b x) : ∀ n c y, zqp E n b c y → ∃ k, zqp E k a c (x != y)
  | 0, c, y, h2 => by
    obtain ⟨rfl, rfl⟩ := h2
    exact ⟨m, by rw [show (x != false) = x by cases x <;> rfl]; exact h⟩
  | n + 1, c, y, h2 => by
    obtain ⟨p, y1, z1, k1, k2, rfl⟩ := h2
    obtain ⟨k, hk⟩ := zqp_trans h n p y1 k1
    exact ⟨k + 1, p, _, z1, hk, k2, (zxb x y1 z1).symm⟩
theorem zqh_trans {nj : Nat} {ea eb tt : Nat → Nat} {X : Nat → Bool} {a b c : Nat} {x y : Bool} (h : zqh nj ea eb tt X a b x) (h2 : zqh nj ea eb tt X b c y) : zqh nj ea eb tt X a c (x != y) := by
  obtain ⟨m, hm⟩ := h
  obtain ⟨n, hn⟩ := h2
  exact zqp_trans hm n c y hn
theorem zqh_join {nj : Nat} {ea eb tt : Nat → Nat} {X : Nat → Bool} {j : Nat} (hj : j < nj) (hX : X j = false) : zqh nj ea eb tt X (ea j / 4) (eb j / 4) (tt j == 1) := ⟨1, ea j / 4, false, tt j == 1, ⟨rfl, rfl⟩, ⟨j, hj, hX, Or.inl ⟨rfl, rfl⟩, rfl⟩, by cases (tt j == 1) <;> rfl⟩
theorem zqX_sym {nj : Nat} {ea eb tt : Nat → Nat} {X : Nat → Bool} {p q : Nat} {x : Bool} (h : zqX nj ea eb tt X p q x) : zqX nj ea eb tt X q p x := by
  obtain ⟨j, j1, j2, j3, j4⟩ := h
  exact ⟨j, j1, j2, by rcases j3 with h | h; exact Or.inr ⟨h.2, h.1⟩; exact Or.inl ⟨h.2, h.1⟩, j4⟩
theorem zqh_sym {nj : Nat} {ea eb tt : Nat → Nat} {X : Nat → Bool} {a b : Nat} {x : Bool} (h : zqh nj ea eb tt X a b x) : zqh nj ea eb tt X b a x := by
  obtain ⟨n, hn⟩ := h
  induction n generalizing b x with
  | zero =>
    obtain ⟨rfl, rfl⟩ := hn
    exact zqh_refl a
  | succ n ih =>
    obtain ⟨p, y, z, k1, k2, rfl⟩ := hn
    have h1 : zqh nj ea eb tt X b p z := ⟨1, b, false, z, ⟨rfl, rfl⟩, zqX_sym k2, by cases z <;> rfl⟩
    have := zqh_trans h1 (ih k1)
    rw [show (z != y) = (y != z) by cases z <;> cases y <;> rfl] at this
    exact this
theorem zqh_mono {k nj : Nat} {ea eb tt : Nat → Nat} {X : Nat → Bool} (hk : k ≤ nj) {a b : Nat} {x : Bool} (h : zqh k ea eb tt X a b x) : zqh nj ea eb tt X a b x := by
  obtain ⟨n, hn⟩ := h
  refine ⟨n, ?_⟩
  induction n generalizing b x with
  | zero => exact hn
  | succ n ih =>
    obtain ⟨p, y, z, k1, ⟨j, j1, j2⟩, k3⟩ := hn
    exact ⟨p, y, z, ih k1, ⟨j, by omega, j2⟩, k3⟩
/-! places and squares with a hand -/
theorem zx01 : ∀ x, x < 2 → ∀ t, t < 2 → (((x == 1) != ((x ^^^ t) == 1)) == (t == 1)) = true := by decide +kernel
theorem zx01' : ∀ x, x < 2 → ∀ y, y < 2 → ∀ t, t < 2 → ((!(((x == 1) != (y == 1)) == (t == 1))) || (y == (x ^^^ t))) = true := by decide +kernel
theorem zjX_q {nj : Nat} {ea eb tt : Nat → Nat} {X : Nat → Bool} (ht : ∀ j, j < nj → tt j < 2) {p q : Nat} : zjX nj ea eb tt X p q ↔ zqX nj ea eb tt X (p / 2) (q / 2) ((p % 2 == 1) != (q % 2 == 1)) := by
  constructor
  · rintro ⟨j, j1, j2, x, hx, h⟩
    have h2 := ht j j1
    have h3 := zxor01 hx h2
    have h4 := zx01 x hx (tt j) h2
    rw [beq_iff_eq] at h4
    refine ⟨j, j1, j2, ?_, ?_⟩
    · rcases h with ⟨h5, h6⟩ | ⟨h5, h6⟩
      · exact Or.inl ⟨by omega, by omega⟩
      · exact Or.inr ⟨by omega, by omega⟩
    · rcases h with ⟨h5, h6⟩ | ⟨h5, h6⟩
      · rw [show p % 2 = x by omega, show q % 2 = x ^^^ tt j by omega]; exact h4
      · rw [show p % 2 = x by omega, show q % 2 = x ^^^ tt j by omega]; exact h4
  · rintro ⟨j, j1, j2, h, hx⟩
    have h4 := zx01' (p % 2) (by omega) (q % 2) (by omega) (tt j) (ht j j1)
    rw [hx, beq_self_eq_true, Bool.not_true, Bool.false_or, beq_iff_eq] at h4
    refine ⟨j, j1, j2, p % 2, by omega, ?_⟩
    rcases h with ⟨h5, h6⟩ | ⟨h5, h6⟩
    · exact Or.inl ⟨by omega, by omega⟩
    · exact Or.inr ⟨by omega, by omega⟩
theorem zjp_q {nj : Nat} {ea eb tt : Nat → Nat} {X : Nat → Bool} (ht : ∀ j, j < nj → tt j < 2) {p : Nat} : ∀ n q, zjp (zjX nj ea eb tt X) n p q ↔ zqp (zqX nj ea eb tt X) n (p / 2) (q / 2) ((p % 2 == 1) != (q % 2 == 1))
  | 0, q => by
    constructor
    · intro h
      have h : p = q := h
      subst h
      exact ⟨rfl, by cases (p % 2 == 1) <;> rfl⟩
    · rintro ⟨h1, h2⟩
      show p = q
      rcases (show p % 2 = 0 ∨ p % 2 = 1 by omega) with e | e <;> rcases (show q % 2 = 0 ∨ q % 2 = 1 by omega) with e2 | e2 <;> rw [e, e2] at h2 <;> first | omega | exact absurd h2 (by decide)
  | n + 1, q => by
    constructor
    · rintro ⟨r, h1, h2⟩
      refine ⟨r / 2, _, _, (zjp_q ht n r).mp h1, (zjX_q ht).mp h2, ?_⟩
      cases (p % 2 == 1) <;> cases (q % 2 == 1) <;> cases (r % 2 == 1) <;> rfl
    · rintro ⟨s, y, z, h1, h2, h3⟩
      have hr : ∃ r, r / 2 = s ∧ (r % 2 == 1) = ((p % 2 == 1) != y) := by
        cases ((p % 2 == 1) != y) with
        | false => exact ⟨2 * s, by omega, by rw [show 2 * s % 2 = 0 by omega]; rfl⟩
        | true => exact ⟨2 * s + 1, by omega, by rw [show (2 * s + 1) % 2 = 1 by omega]; rfl⟩
      obtain ⟨r, r1, r2⟩ := hr
      refine ⟨r, (zjp_q ht n r).mpr ?_, (zjX_q ht).mpr ?_⟩
      · rw [r1, r2, show ((p % 2 == 1) != ((p % 2 == 1) != y)) = y by cases (p % 2 == 1) <;> cases y <;> rfl]
        exact h1
      · rw [r1, r2, show (((p % 2 == 1) != y) != (q % 2 == 1)) = z by
          revert h3
          cases (p % 2 == 1) <;> cases (q % 2 == 1) <;> cases y <;> cases z <;> decide]
        exact h2
/-- whether somebody comes home turned, some joins left out -/
def zhom (ns nj : Nat) (ea eb tt : Nat → Nat) (X : Nat → Bool) : Prop := ∃ s, s < ns ∧ zqh nj ea eb tt X s s true
/-! on the side of the reference -/
theorem m_reachQ {J : zI} {ns nj : Nat} {cs ea eb tt : Nat → Nat} (hG : wfG ns nj cs ea eb tt) (hg : gM (J 1) ns nj cs ea eb tt) {X : Nat → Bool} {v2 v3 : Int32} (hX : ∀ j, j < nj → (X j = true ↔ nI j = v2 ∨ nI j = v3)) {s : Nat} (hs : s < ns) : ∃ R, R < 65536 ∧ fm_reachedBut J ((2 : Int32) * nI s) v2 v3 = some (nI R) ∧ (∀ k, R.testBit (2 * k) = true ↔ zqh nj ea eb tt X s k false) ∧ ∀ k, R.testBit (2 * k + 1) = true ↔ zqh nj ea eb tt X s k true := by
  have hns := hG.1
  obtain ⟨R, r1, r2, r3⟩ := m_reachedBut hG hg hX (a := 2 * s) (by omega)
  have ht : ∀ j, j < nj → tt j < 2 := fun j hj => (hG.2.2.2.1 j hj).2.2.2
  refine ⟨R, r1, by rw [show (2 : Int32) * nI s = nI (2 * s) from zl_mul 2 s]; exact r2, fun k => ?_, fun k => ?_⟩
  · rw [r3 (2 * k)]
    constructor
    · rintro ⟨n, h⟩
      have := (zjp_q ht n (2 * k)).mp h
      rw [show 2 * s / 2 = s by omega, show 2 * k / 2 = k by omega, show 2 * s % 2 = 0 by omega, show 2 * k % 2 = 0 by omega] at this
      exact ⟨n, this⟩
    · rintro ⟨n, h⟩
      refine ⟨n, (zjp_q ht n (2 * k)).mpr ?_⟩
      rw [show 2 * s / 2 = s by omega, show 2 * k / 2 = k by omega, show 2 * s % 2 = 0 by omega, show 2 * k % 2 = 0 by omega]
      exact h
  · rw [r3 (2 * k + 1)]
    constructor
    · rintro ⟨n, h⟩
      have := (zjp_q ht n (2 * k + 1)).mp h
      rw [show 2 * s / 2 = s by omega, show (2 * k + 1) / 2 = k by omega, show 2 * s % 2 = 0 by omega, show (2 * k + 1) % 2 = 1 by omega] at this
      exact ⟨n, this⟩
    · rintro ⟨n, h⟩
      refine ⟨n, (zjp_q ht n (2 * k + 1)).mpr ?_⟩
      rw [show 2 * s / 2 = s by omega, show (2 * k + 1) / 2 = k by omega, show 2 * s % 2 = 0 by omega, show (2 * k + 1) % 2 = 1 by omega]
      exact h
theorem m_turn_L {J : zI} {ns nj : Nat} {cs ea eb tt : Nat → Nat} (hG : wfG ns nj cs ea eb tt) (hg : gM (J 1) ns nj cs ea eb tt) {X : Nat → Bool} {v1 v2 : Int32} (hX : ∀ j, j < nj → (X j = true ↔ nI j = v1 ∨ nI j = v2)) : ∀ (m k fuel : Nat) (r : Int32), k + m = ns → m < fuel → (r = 1 ∧ (∃ s, s < k ∧ zqh nj ea eb tt X s s true) ∨ r = 0 ∧ ¬ ∃ s, s < k ∧ zqh nj ea eb tt X s s true) → ∃ r', fm_comesTurned_L5 J fuel v1 v2 r (nI k) = some r' ∧ (r' = 1 ∧ zhom ns nj ea eb tt X ∨ r' = 0 ∧ ¬ zhom ns nj ea eb tt X) := by
  have hns := hG.1
  intro m
  induction m with
  | zero =>
    intro k fuel r hk hf hr
    obtain ⟨F, rfl⟩ : ∃ g, fuel = g + 1 := ⟨fuel - 1, by omega⟩
    have : k = ns := by omega
    subst this
    refine ⟨r, ?_, hr⟩
    rw [fm_comesTurned_L5, zcl0, hg.1, if_pos (nI_le (by omega) (by omega))]
    rcases hr with ⟨rfl, _⟩ | ⟨rfl, _⟩ <;> rfl
  | succ m ih =>
    intro k fuel r hk hf hr
    obtain ⟨F, rfl⟩ : ∃ g, fuel = g + 1 := ⟨fuel - 1, by omega⟩
    rw [fm_comesTurned_L5, zcl0, hg.1, if_neg (nI_ge (by omega) (by omega)), nI_1]
    rcases hr with ⟨rfl, s, hs, hq⟩ | ⟨rfl, hn⟩
    · rw [if_neg z10]
      exact ih (k + 1) F 1 (by omega) (by omega) (Or.inl ⟨rfl, s, by omega, hq⟩)
    · obtain ⟨R, r1, r2, r3, r4⟩ := m_reachQ hG hg hX (s := k) (by omega)
      rw [if_pos rfl, r2, Option.bind_some, show (2 : Int32) * nI k = nI (2 * k) from zl_mul 2 k, nI_1, m_has J r1 (by omega), Option.bind_some]
      cases e : R.testBit (2 * k + 1) with
      | true =>
        rw [if_pos rfl, if_neg z10]
        exact ih (k + 1) F 1 (by omega) (by omega) (Or.inl ⟨rfl, k, by omega, (r4 k).mp e⟩)
      | false =>
        rw [if_neg (show ¬ (false = true) by decide), if_pos rfl]
        refine ih (k + 1) F 0 (by omega) (by omega) (Or.inr ⟨rfl, ?_⟩)
        rintro ⟨s, hs, hq⟩
        by_cases h : s = k
        · subst h
          have := (r4 s).mpr hq
          rw [e] at this
          cases this
        · exact hn ⟨s, by omega, hq⟩
theorem m_comes {J : zI} {ns nj : Nat} {cs ea eb tt : Nat → Nat} (hG : wfG ns nj cs ea eb tt) (hg : gM (J 1) ns nj cs ea eb tt) {X : Nat → Bool} {v1 v2 : Int32} (hX : ∀ j, j < nj → (X j = true ↔ nI j = v1 ∨ nI j = v2)) : ∃ r, fm_comesTurned J v1 v2 = some r ∧ (r = 1 ∧ zhom ns nj ea eb tt X ∨ r = 0 ∧ ¬ zhom ns nj ea eb tt X) :=
  m_turn_L hG hg hX ns 0 100 0 (by omega) (by have := hG.1; omega) (Or.inr ⟨rfl, fun ⟨s, h, _⟩ => absurd h (Nat.not_lt_zero s)⟩)
/-! on the side of the class -/
def zvi (k : Nat) (ns : Nat) (ea eb tt : Nat → Nat) (X : Nat → Bool) (f : Nat → Nat) (φ : Nat → Bool) : Prop := zlw ns f ∧ (∀ i j, i < ns → j < ns → f i = f j → zqh k ea eb tt X i j (φ i != φ j)) ∧ ∀ j, j < k → X j = false → f (ea j / 4) = f (eb j / 4) ∧ (φ (ea j / 4) != φ (eb j / 4)) = (tt j == 1)
def zbi (x : Bool) : Nat := if x then 1 else 0
theorem zbi_xor (x y : Bool) : nI (zbi x) ^^^ nI (zbi y) = nI (zbi (x != y)) := by cases x <;> cases y <;> decide
theorem zbi_t {t : Nat} (h : t < 2) : t = zbi (t == 1) := by
  rcases (show t = 0 ∨ t = 1 by omega) with rfl | rfl <;> rfl
theorem c_hang_L {ns a b : Nat} {f : Nat → Nat} {φ : Nat → Bool} {fl : Bool} (hns : ns ≤ 8) (hf : zlw ns f) (ha : a < ns) (hb : b < ns) : ∀ (m k fuel : Nat) (V : zI), k + m = ns → m < fuel → V 2 0 = nI ns → (∀ i, i < ns → V 102 i = nI (f i)) → (∀ i, i < k → V 103 i = nI (zbi (if f i = f b then (φ i != fl) else φ i))) → (∀ i, k ≤ i → i < ns → V 103 i = nI (zbi (φ i))) → ∃ V', fc_Shape_hangsTogether_L87 fuel (nI a) (nI b) (nI (zbi fl)) (nI (f b)) (nI k) V = some (1, V') ∧ (∀ i, i < ns → V' 102 i = nI (zun f a b i) ∧ V' 103 i = nI (zbi (if f i = f b then (φ i != fl) else φ i))) ∧ ∀ c j, c ≠ 102 → c ≠ 103 → V' c j = V c j := by
  intro m
  induction m with
  | zero =>
    intro k fuel V hk hfu h20 h2 h3 h4
    obtain ⟨F, rfl⟩ : ∃ g, fuel = g + 1 := ⟨fuel - 1, by omega⟩
    obtain ⟨V', r1, r2, r3⟩ := c_makeOne (V := V) (show ns ≤ 32 by omega) hf ha hb h2
    refine ⟨V', ?_, fun i hi => ⟨r2 i hi, by rw [r3 _ _ (by omega)]; exact h3 i (by omega)⟩, fun c j hc _ => r3 c j hc⟩
    rw [fc_Shape_hangsTogether_L87, h20, if_pos (nI_le (by omega) (by omega)), r1]
    rfl
  | succ m ih =>
    intro k fuel V hk hfu h20 h2 h3 h4
    obtain ⟨F, rfl⟩ : ∃ g, fuel = g + 1 := ⟨fuel - 1, by omega⟩
    have fk := (hf k (by omega)).1
    have fb := (hf b hb).1
    rw [fc_Shape_hangsTogether_L87, h20, if_neg (nI_ge (by omega) (by omega)), zl_b (by omega), zl_b (by omega), show decide (k < 32) = true from decide_eq_true (by omega), show decide (k < 8) = true from decide_eq_true (by omega), zl_cl k (by omega), h2 k (by omega), h4 k (Nat.le_refl _) (by omega), nI_1, zbi_xor]
    simp only [z_guard, if_true]
    by_cases e : f k = f b
    · rw [if_pos (show nI (f k) = nI (f b) by rw [e])]
      obtain ⟨V', r1, r2, r3⟩ := ih (k + 1) F (zup V 103 k (nI (zbi (φ k != fl)))) (by omega) (by omega) (by rw [zup_o (by omega)]; exact h20) (fun i hi => by rw [zup_o (by omega)]; exact h2 i hi) (fun i hi => by
        by_cases e2 : i = k
        · subst e2; rw [zup_y, if_pos e]
        · rw [zup_o (by omega)]; exact h3 i (by omega)) (fun i hi hi2 => by rw [zup_o (by omega)]; exact h4 i (by omega) hi2)
      exact ⟨V', r1, r2, fun c j h5 h6 => by rw [r3 c j h5 h6, zup_o (by omega)]⟩
    · rw [if_neg (show ¬ nI (f k) = nI (f b) from fun q => e ((nI_eq (by omega) (by omega)).mp q))]
      exact ih (k + 1) F V (by omega) (by omega) h20 h2 (fun i hi => by
        by_cases e2 : i = k
        · subst e2; rw [if_neg e]; exact h4 i (Nat.le_refl _) (by omega)
        · exact h3 i (by omega)) (fun i hi hi2 => h4 i (by omega) hi2)
theorem zvi_skip {k ns : Nat} {ea eb tt : Nat → Nat} {X : Nat → Bool} {f : Nat → Nat} {φ : Nat → Bool} (h : zvi k ns ea eb tt X f φ) (hX : X k = true) : zvi (k + 1) ns ea eb tt X f φ := by
  obtain ⟨h1, h2, h3⟩ := h
  refine ⟨h1, fun i j hi hj e => zqh_mono (by omega) (h2 i j hi hj e), fun j hj hXj => ?_⟩
  have : j ≠ k := fun e => by rw [e, hX] at hXj; cases hXj
  exact h3 j (by omega) hXj
theorem zvi_same {k ns : Nat} {ea eb tt : Nat → Nat} {X : Nat → Bool} {f : Nat → Nat} {φ : Nat → Bool} (h : zvi k ns ea eb tt X f φ) (e1 : f (ea k / 4) = f (eb k / 4)) (e2 : (φ (ea k / 4) != φ (eb k / 4)) = (tt k == 1)) : zvi (k + 1) ns ea eb tt X f φ := by
  obtain ⟨h1, h2, h3⟩ := h
  refine ⟨h1, fun i j hi hj e => zqh_mono (by omega) (h2 i j hi hj e), fun j hj hXj => ?_⟩
  by_cases e : j = k
  · subst e; exact ⟨e1, e2⟩
  · exact h3 j (by omega) hXj
theorem zvi_un {k ns : Nat} {ea eb tt : Nat → Nat} {X : Nat → Bool} {f : Nat → Nat} {φ : Nat → Bool} (h : zvi k ns ea eb tt X f φ) (ha : ea k / 4 < ns) (hb : eb k / 4 < ns) (hX : X k = false) (hne : f (ea k / 4) ≠ f (eb k / 4)) (hlt : ∀ j, j < k → ea j / 4 < ns ∧ eb j / 4 < ns) : zvi (k + 1) ns ea eb tt X (zun f (ea k / 4) (eb k / 4)) (fun i => if f i = f (eb k / 4) then (φ i != ((φ (ea k / 4) != φ (eb k / 4)) != (tt k == 1))) else φ i) := by
  obtain ⟨h1, h2, h3⟩ := h
  refine ⟨zun_lw h1 ha, fun i j hi hj e => ?_, fun j hj hXj => ?_⟩
  · have old : f i = f j → zqh (k + 1) ea eb tt X i j (φ i != φ j) := fun e => zqh_mono (by omega) (h2 i j hi hj e)
    rcases zun_eq.mp e with e | ⟨e1, e2⟩
    · have := old e
      show zqh (k + 1) ea eb tt X i j ((if f i = f (eb k / 4) then _ else _) != (if f j = f (eb k / 4) then _ else _))
      by_cases e3 : f i = f (eb k / 4)
      · rw [if_pos e3, if_pos (by omega)]
        rw [show ((φ i != ((φ (ea k / 4) != φ (eb k / 4)) != (tt k == 1))) != (φ j != ((φ (ea k / 4) != φ (eb k / 4)) != (tt k == 1)))) = (φ i != φ j) by
          cases φ i <;> cases φ j <;> cases ((φ (ea k / 4) != φ (eb k / 4)) != (tt k == 1)) <;> rfl]
        exact this
      · rw [if_neg e3, if_neg (by omega)]
        exact this
    · have hjoin := zqh_join (nj := k + 1) (ea := ea) (eb := eb) (tt := tt) (X := X) (j := k) (by omega) hX
      have go : ∀ i j, i < ns → j < ns → f i = f (ea k / 4) → f j = f (eb k / 4) → zqh (k + 1) ea eb tt X i j (φ i != (φ j != ((φ (ea k / 4) != φ (eb k / 4)) != (tt k == 1)))) := fun i j hi hj q1 q2 => by
        have z1 := zqh_mono (show k ≤ k + 1 by omega) (h2 i (ea k / 4) hi ha q1)
        have z2 := zqh_mono (show k ≤ k + 1 by omega) (h2 (eb k / 4) j hb hj q2.symm)
        have z3 := zqh_trans (zqh_trans z1 hjoin) z2
        rw [show (((φ i != φ (ea k / 4)) != (tt k == 1)) != (φ (eb k / 4) != φ j)) = (φ i != (φ j != ((φ (ea k / 4) != φ (eb k / 4)) != (tt k == 1)))) by
          cases φ i <;> cases φ j <;> cases φ (ea k / 4) <;> cases φ (eb k / 4) <;> cases (tt k == 1) <;> rfl] at z3
        exact z3
      show zqh (k + 1) ea eb tt X i j ((if f i = f (eb k / 4) then _ else _) != (if f j = f (eb k / 4) then _ else _))
      by_cases e3 : f i = f (eb k / 4)
      · by_cases e4 : f j = f (eb k / 4)
        · rw [if_pos e3, if_pos e4]
          have := old (by omega)
          rw [show ((φ i != ((φ (ea k / 4) != φ (eb k / 4)) != (tt k == 1))) != (φ j != ((φ (ea k / 4) != φ (eb k / 4)) != (tt k == 1)))) = (φ i != φ j) by
            cases φ i <;> cases φ j <;> cases ((φ (ea k / 4) != φ (eb k / 4)) != (tt k == 1)) <;> rfl]
          exact this
        · rw [if_pos e3, if_neg e4]
          have e5 : f j = f (ea k / 4) := by rcases e2 with e2 | e2; exact e2; exact absurd e2 e4
          have := zqh_sym (go j i hj hi e5 e3)
          rw [show ((φ i != ((φ (ea k / 4) != φ (eb k / 4)) != (tt k == 1))) != φ j) = (φ j != (φ i != ((φ (ea k / 4) != φ (eb k / 4)) != (tt k == 1)))) by
            cases φ i <;> cases φ j <;> cases ((φ (ea k / 4) != φ (eb k / 4)) != (tt k == 1)) <;> rfl]
          exact this
      · have e5 : f i = f (ea k / 4) := by rcases e1 with e1 | e1; exact e1; exact absurd e1 e3
        by_cases e4 : f j = f (eb k / 4)
        · rw [if_neg e3, if_pos e4]
          exact go i j hi hj e5 e4
        · rw [if_neg e3, if_neg e4]
          have e6 : f j = f (ea k / 4) := by rcases e2 with e2 | e2; exact e2; exact absurd e2 e4
          exact old (by omega)
  · show zun f _ _ _ = zun f _ _ _ ∧ ((if f (ea j / 4) = f (eb k / 4) then _ else _) != (if f (eb j / 4) = f (eb k / 4) then _ else _)) = _
    by_cases e : j = k
    · subst e
      refine ⟨zun_eq.mpr (Or.inr ⟨Or.inl rfl, Or.inr rfl⟩), ?_⟩
      rw [if_neg hne, if_pos rfl]
      cases φ (ea j / 4) <;> cases φ (eb j / 4) <;> cases (tt j == 1) <;> rfl
    · obtain ⟨q1, q2⟩ := h3 j (by omega) hXj
      refine ⟨zun_eq.mpr (Or.inl q1), ?_⟩
      by_cases e3 : f (ea j / 4) = f (eb k / 4)
      · rw [if_pos e3, if_pos (by omega), ← q2]
        cases φ (ea j / 4) <;> cases φ (eb j / 4) <;> cases ((φ (ea k / 4) != φ (eb k / 4)) != (tt k == 1)) <;> rfl
      · rw [if_neg e3, if_neg (by omega)]
        exact q2
theorem zvi_home {nj ns : Nat} {ea eb tt : Nat → Nat} {X : Nat → Bool} {f : Nat → Nat} {φ : Nat → Bool} (h : zvi nj ns ea eb tt X f φ) {a b : Nat} {x : Bool} (hq : zqh nj ea eb tt X a b x) : f a = f b ∧ x = (φ a != φ b) := by
  obtain ⟨n, hn⟩ := hq
  induction n generalizing b x with
  | zero =>
    obtain ⟨rfl, rfl⟩ := hn
    exact ⟨rfl, by cases φ a <;> rfl⟩
  | succ n ih =>
    obtain ⟨p, y, z, k1, ⟨j, j1, j2, j3, j4⟩, rfl⟩ := hn
    obtain ⟨i1, i2⟩ := ih k1
    obtain ⟨q1, q2⟩ := h.2.2 j j1 j2
    rw [j4, ← q2, i2]
    rcases j3 with ⟨rfl, rfl⟩ | ⟨rfl, rfl⟩
    · exact ⟨by omega, by cases φ a <;> cases φ (ea j / 4) <;> cases φ (eb j / 4) <;> rfl⟩
    · exact ⟨by omega, by cases φ a <;> cases φ (ea j / 4) <;> cases φ (eb j / 4) <;> rfl⟩
theorem c_turn_L {ns nj mask : Nat} {cs ea eb tt : Nat → Nat} (hG : wfG ns nj cs ea eb tt) (hm : mask < 65536) {X : Nat → Bool} (hX : ∀ j, j < nj → X j = mask.testBit j) : ∀ (m k fuel : Nat) (V : zI) (f : Nat → Nat) (φ : Nat → Bool), k + m = nj → m < fuel → gC V ns nj cs ea eb tt → (∀ i, i < ns → V 102 i = nI (f i) ∧ V 103 i = nI (zbi (φ i))) → zvi k ns ea eb tt X f φ → ∃ r V', fc_Shape_turnsHome_L18 fuel (nI mask) (nI k) V = some (r, V') ∧ (r = 1 ∧ zhom ns nj ea eb tt X ∨ r = 0 ∧ ¬ zhom ns nj ea eb tt X) ∧ ∀ c j, c ≠ 102 → c ≠ 103 → V' c j = V c j := by
  have hns := hG.1
  have hnj := hG.2.1
  intro m
  induction m with
  | zero =>
    intro k fuel V f φ hk hf hV h2 hz
    obtain ⟨F, rfl⟩ : ∃ g, fuel = g + 1 := ⟨fuel - 1, by omega⟩
    have : k = nj := by omega
    subst this
    refine ⟨0, V, by rw [fc_Shape_turnsHome_L18, hV.2.1, if_pos (nI_le (by omega) (by omega))], Or.inr ⟨rfl, ?_⟩, fun _ _ _ _ => rfl⟩
    rintro ⟨s, hs, hq⟩
    have := (zvi_home hz hq).2
    revert this
    cases φ s <;> decide
  | succ m ih =>
    intro k fuel V f φ hk hf hV h2 hz
    obtain ⟨F, rfl⟩ : ∃ g, fuel = g + 1 := ⟨fuel - 1, by omega⟩
    obtain ⟨a1, a2, a3, a4⟩ := hG.2.2.2.1 k (by omega)
    obtain ⟨b1, b2, b3⟩ := hV.2.2.2.1 k (by omega)
    have hbit := zshr_b hm (show k < 16 by omega)
    rw [fc_Shape_turnsHome_L18, hV.2.1, if_neg (nI_ge (by omega) (by omega)), nI_1]
    cases eX : X k with
    | true =>
      rw [if_pos (hbit.mpr (by rw [← hX k (by omega)]; exact eX))]
      exact ih (k + 1) F V f φ (by omega) (by omega) hV h2 (zvi_skip hz eX)
    | false =>
      rw [if_neg (fun q => by have := hbit.mp q; rw [← hX k (by omega), eX] at this; cases this)]
      have ha : ea k / 4 < ns := by omega
      have hb : eb k / 4 < ns := by omega
      have fa := (hz.1 (ea k / 4) ha).1
      have fb := (hz.1 (eb k / 4) hb).1
      have hh : fc_Shape_hangsTogether V (nI k) = if nI (f (ea k / 4)) = nI (f (eb k / 4)) then (if nI (zbi ((φ (ea k / 4) != φ (eb k / 4)) != (tt k == 1))) = 0 then some ((1 : Int32), V) else some ((0 : Int32), V)) else fc_Shape_hangsTogether_L87 100 (nI (ea k / 4)) (nI (eb k / 4)) (nI (zbi ((φ (ea k / 4) != φ (eb k / 4)) != (tt k == 1)))) (nI (f (eb k / 4))) (0 : Int32) V := by
        unfold fc_Shape_hangsTogether
        rw [show (2 : Int32) * nI k = nI (2 * k) from zl_mul 2 k, nI_1, zl_cl _ (by omega), zl_cl _ (by omega), zl_cl k (by omega), b1, b2, b3, show nI (ea k) / (4 : Int32) = nI (ea k / 4) from zl_div (ea k) 4 (by omega) (by omega) (by omega), show nI (eb k) / (4 : Int32) = nI (eb k / 4) from zl_div (eb k) 4 (by omega) (by omega) (by omega), zl_cl _ (by omega), zl_cl _ (by omega), (h2 _ ha).1, (h2 _ hb).1, (h2 _ ha).2, (h2 _ hb).2, zbi_xor]
        rw [show nI (tt k) = nI (zbi (tt k == 1)) by rw [← zbi_t a4], zbi_xor, zl_b (by omega), zl_b (by omega), zl_b (by omega), zl_b (by omega), zl_b (by omega), zl_b (by omega), zl_b (by omega), show decide (2 * k < 32) = true from decide_eq_true (by omega), show decide (2 * k + 1 < 32) = true from decide_eq_true (by omega), show decide (ea k / 4 < 8) = true from decide_eq_true (by omega), show decide (eb k / 4 < 8) = true from decide_eq_true (by omega), show decide (k < 16) = true from decide_eq_true (by omega), show decide (ea k / 4 < 32) = true from decide_eq_true (by omega), show decide (eb k / 4 < 32) = true from decide_eq_true (by omega)]
        simp only [z_guard, if_true]
      rw [hh]
      by_cases e : f (ea k / 4) = f (eb k / 4)
      · rw [if_pos (show nI (f (ea k / 4)) = nI (f (eb k / 4)) by rw [e])]
        cases e2 : ((φ (ea k / 4) != φ (eb k / 4)) != (tt k == 1)) with
        | false =>
          rw [if_pos (show nI (zbi false) = 0 from rfl), Option.bind_some, if_neg z10]
          exact ih (k + 1) F V f φ (by omega) (by omega) hV h2 (zvi_same hz e (by
            revert e2
            cases (φ (ea k / 4) != φ (eb k / 4)) <;> cases (tt k == 1) <;> decide))
        | true =>
          rw [if_neg (show ¬ nI (zbi true) = 0 by decide), Option.bind_some, if_pos rfl]
          refine ⟨1, V, rfl, Or.inl ⟨rfl, ea k / 4, ha, ?_⟩, fun _ _ _ _ => rfl⟩
          have z1 := zqh_mono (show k ≤ nj by omega) (hz.2.1 _ _ ha hb e)
          have z2 := zqh_sym (zqh_join (nj := nj) (ea := ea) (eb := eb) (tt := tt) (X := X) (j := k) (by omega) eX)
          have z3 := zqh_trans z1 z2
          rw [e2] at z3
          exact z3
      · rw [if_neg (show ¬ nI (f (ea k / 4)) = nI (f (eb k / 4)) from fun q => e ((nI_eq (by omega) (by omega)).mp q))]
        obtain ⟨V1, r1, r2, r3⟩ := c_hang_L (fl := ((φ (ea k / 4) != φ (eb k / 4)) != (tt k == 1))) (φ := φ) hns hz.1 ha hb ns 0 100 V (by omega) (by omega) hV.1 (fun i hi => (h2 i hi).1) (fun i hi => by omega) (fun i _ hi => (h2 i hi).2)
        rw [show fc_Shape_hangsTogether_L87 100 (nI (ea k / 4)) (nI (eb k / 4)) (nI (zbi ((φ (ea k / 4) != φ (eb k / 4)) != (tt k == 1)))) (nI (f (eb k / 4))) (0 : Int32) V = _ from r1, Option.bind_some, if_neg z10]
        obtain ⟨r, V', q1, q2, q3⟩ := ih (k + 1) F V1 _ _ (by omega) (by omega) (gC_cg hV (fun c j h1 h2 => r3 c j (by omega) (by omega))) r2 (zvi_un hz ha hb eX e (fun j hj => by
          have := hG.2.2.2.1 j (by omega)
          omega))
        exact ⟨r, V', q1, q2, fun c j h1 h2 => by rw [q3 c j h1 h2, r3 c j h1 h2]⟩
theorem c_home {V : zI} {ns nj mask : Nat} {cs ea eb tt : Nat → Nat} (hG : wfG ns nj cs ea eb tt) (hV : gC V ns nj cs ea eb tt) (hm : mask < 65536) {X : Nat → Bool} (hX : ∀ j, j < nj → X j = mask.testBit j) : ∃ r V', fc_Shape_turnsHome V (nI mask) = some (r, V') ∧ (r = 1 ∧ zhom ns nj ea eb tt X ∨ r = 0 ∧ ¬ zhom ns nj ea eb tt X) ∧ ∀ c j, c ≠ 102 → c ≠ 103 → V' c j = V c j := by
  have hns := hG.1
  have hnj := hG.2.1
  obtain ⟨V1, r1, r2, r3⟩ := c_begin (V := V) (N := ns) (by omega)
  obtain ⟨r, V', q1, q2, q3⟩ := c_turn_L hG hm hX nj 0 100 (zfill V1 103 8 (0 : Int32)) (fun i => i) (fun _ => false) (by omega) (by omega) (gC_cg hV (fun c j h1 h2 => by rw [zfi_o (by omega), r3 c j (by omega)])) (fun i hi => ⟨by rw [zfi_o (by omega)]; exact r2 i hi, by rw [zfi_y (by omega)]; rfl⟩) ⟨fun i hi => ⟨hi, rfl⟩, fun i j hi hj e => by
    have e : i = j := e
    subst e
    exact zqh_refl i, fun j hj => absurd hj (Nat.not_lt_zero j)⟩
  refine ⟨r, V', ?_, q2, fun c j h1 h2 => by rw [q3 c j h1 h2, zfi_o h2, r3 c j h1]⟩
  unfold fc_Shape_turnsHome
  rw [hV.1, r1, Option.bind_some]
  exact q1
