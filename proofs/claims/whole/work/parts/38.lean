/-! places that are reached by joins, some of them left out -/
def zjE (ea eb tt : Nat → Nat) (j p q : Nat) : Prop := ∃ x, x < 2 ∧ (p = 2 * (ea j / 4) + x ∧ q = 2 * (eb j / 4) + (x ^^^ tt j) ∨ p = 2 * (eb j / 4) + x ∧ q = 2 * (ea j / 4) + (x ^^^ tt j))
def zjp (E : Nat → Nat → Prop) : Nat → Nat → Nat → Prop
  | 0, a, b => a = b
  | n + 1, a, b => ∃ p, zjp E n a p ∧ E p b
def zif (b : Bool) (x : Nat) : Nat := if b then x else 0
theorem zif_bit (b : Bool) (k q : Nat) : (zif b (2 ^ k)).testBit q = (b && decide (k = q)) := by
  unfold zif
  cases b with
  | false => rw [if_neg (by decide), Nat.zero_testBit]; rfl
  | true => rw [if_pos rfl, Nat.testBit_two_pow]; rfl
theorem zif_lt {b : Bool} {k : Nat} (hk : k < 16) : zif b (2 ^ k) < 65536 := by
  unfold zif
  split
  · exact Nat.pow_lt_pow_right (n := 16) (by omega) hk
  · omega
theorem zor_lt {a b : Nat} (ha : a < 65536) (hb : b < 65536) : a ||| b < 65536 := Nat.or_lt_two_pow (n := 16) ha hb
theorem m_has (J : zI) {x k : Nat} (hx : x < 65536) (hk : k < 16) : fm_has J (nI x) (nI k) = some (if x.testBit k then 1 else 0) := by
  have hb := zshr_b hx hk
  unfold fm_has
  by_cases h : x.testBit k = true
  · rw [if_pos (hb.mpr h), if_pos h]
  · rw [if_neg (fun e => h (hb.mp e)), if_neg h]
theorem m_crs (J : zI) {S A B t r h f : Nat} (hS : S < 65536) (hA : A < 15) (hB : B < 15) (ht : t < 2) (hh : h < 2) : fm_crossed_L37 J (f + 1) (nI S) (nI A) (nI B) (nI t) (nI r) (nI h) = fm_crossed_L37 J f (nI S) (nI A) (nI B) (nI t) (nI ((r ||| zif (S.testBit (A + h)) (2 ^ (B + (h ^^^ t)))) ||| zif (S.testBit (B + h)) (2 ^ (A + (h ^^^ t))))) (nI (h + 1)) := by
  have hx := zxor01 hh ht
  have o0 : ∀ y : Nat, nI y ||| (0 : Int32) = nI (y ||| 0) := fun y => zl_or y 0
  rw [fm_crossed_L37, if_neg (show ¬ (2 : Int32) ≤ nI h from nI_ge (b := 2) hh (by omega)), zl_add, zl_add, m_has J hS (by omega), m_has J hS (by omega), zl_xor, zl_add, zl_add, zshl2 _ (by omega), zshl2 _ (by omega), nI_1, Option.bind_some, Option.bind_some, Option.bind_some]
  have f0 : (if false = true then (1 : Int32) else 0) = 0 := if_neg (by decide)
  have f1 : (if true = true then (1 : Int32) else 0) = 1 := if_pos rfl
  cases S.testBit (A + h) with
  | false =>
    cases S.testBit (B + h) with
    | false => rw [f0, if_pos rfl, if_pos rfl, o0, o0]; rfl
    | true => rw [f0, f1, if_pos rfl, if_neg z10, o0, zl_or]; rfl
  | true =>
    cases S.testBit (B + h) with
    | false => rw [f0, f1, if_neg z10, if_pos rfl, zl_or, o0]; rfl
    | true => rw [f1, if_neg z10, if_neg z10, zl_or, zl_or]; rfl
theorem m_crossed {J : zI} {ns nj : Nat} {cs ea eb tt : Nat → Nat} (hG : wfG ns nj cs ea eb tt) (hg : gM (J 1) ns nj cs ea eb tt) {S j : Nat} (hS : S < 65536) (hj : j < nj) : ∃ R, R < 65536 ∧ fm_crossed J (nI S) (nI j) = some (nI R) ∧ ∀ q, R.testBit q = true ↔ ∃ p, S.testBit p = true ∧ zjE ea eb tt j p q := by
  have hns := hG.1
  have hnj := hG.2.1
  obtain ⟨a1, a2, a3, a4⟩ := hG.2.2.2.1 j hj
  obtain ⟨b1, b2, b3⟩ := hg.2.2.2 j hj
  have x0 := zxor01 (a := 0) (by omega) a4
  have x1 := zxor01 (a := 1) (by omega) a4
  have j0 : fm_joinOf J (nI j) (0 : Int32) = some (nI (ea j)) := by rw [show (0 : Int32) = nI 0 from rfl, m_joinOf (by omega) (by omega), Nat.add_zero, b1]
  have j1 : fm_joinOf J (nI j) (1 : Int32) = some (nI (eb j)) := by rw [show (1 : Int32) = nI 1 from rfl, m_joinOf (by omega) (by omega), b2]
  have j2 : fm_joinOf J (nI j) (2 : Int32) = some (nI (tt j)) := by rw [show (2 : Int32) = nI 2 from rfl, m_joinOf (by omega) (by omega), b3]
  refine ⟨(((0 ||| zif (S.testBit (2 * (ea j / 4) + 0)) (2 ^ (2 * (eb j / 4) + (0 ^^^ tt j)))) ||| zif (S.testBit (2 * (eb j / 4) + 0)) (2 ^ (2 * (ea j / 4) + (0 ^^^ tt j)))) ||| zif (S.testBit (2 * (ea j / 4) + 1)) (2 ^ (2 * (eb j / 4) + (1 ^^^ tt j)))) ||| zif (S.testBit (2 * (eb j / 4) + 1)) (2 ^ (2 * (ea j / 4) + (1 ^^^ tt j))), zor_lt (zor_lt (zor_lt (zor_lt (by omega) (zif_lt (by omega))) (zif_lt (by omega))) (zif_lt (by omega))) (zif_lt (by omega)), ?_, fun q => ?_⟩
  · unfold fm_crossed
    rw [j0, j1, j2, Option.bind_some, Option.bind_some, Option.bind_some, k_4, zl_div _ _ (by omega) (by omega) (by omega), zl_div _ _ (by omega) (by omega) (by omega), k_2, zl_mul, zl_mul]
    have e := m_crs J (S := S) (A := 2 * (ea j / 4)) (B := 2 * (eb j / 4)) (t := tt j) (r := 0) (h := 0) (f := 99) hS (by omega) (by omega) a4 (by omega)
    refine Eq.trans e (Eq.trans (m_crs J (f := 98) hS (by omega) (by omega) a4 (by omega)) ?_)
    rw [fm_crossed_L37, if_pos (show (2 : Int32) ≤ nI (0 + 1 + 1) by decide)]
  · simp only [Nat.testBit_or, Bool.or_eq_true, zif_bit, Bool.and_eq_true, decide_eq_true_eq, Nat.zero_testBit, Bool.false_eq_true, false_or]
    constructor
    · rintro (((⟨h1, h2⟩ | ⟨h1, h2⟩) | ⟨h1, h2⟩) | ⟨h1, h2⟩)
      · exact ⟨_, h1, 0, by omega, Or.inl ⟨rfl, h2.symm⟩⟩
      · exact ⟨_, h1, 0, by omega, Or.inr ⟨rfl, h2.symm⟩⟩
      · exact ⟨_, h1, 1, by omega, Or.inl ⟨rfl, h2.symm⟩⟩
      · exact ⟨_, h1, 1, by omega, Or.inr ⟨rfl, h2.symm⟩⟩
    · rintro ⟨p, h1, x, hx, h2⟩
      rcases (show x = 0 ∨ x = 1 by omega) with rfl | rfl
      · rcases h2 with ⟨rfl, h3⟩ | ⟨rfl, h3⟩
        · exact Or.inl (Or.inl (Or.inl ⟨h1, h3.symm⟩))
        · exact Or.inl (Or.inl (Or.inr ⟨h1, h3.symm⟩))
      · rcases h2 with ⟨rfl, h3⟩ | ⟨rfl, h3⟩
        · exact Or.inl (Or.inr ⟨h1, h3.symm⟩)
        · exact Or.inr ⟨h1, h3.symm⟩
/-- crossing any of the joins that count -/
def zjX (nj : Nat) (ea eb tt : Nat → Nat) (X : Nat → Bool) (p q : Nat) : Prop := ∃ j, j < nj ∧ X j = false ∧ zjE ea eb tt j p q
theorem m_rb22 {J : zI} {ns nj : Nat} {cs ea eb tt : Nat → Nat} (hG : wfG ns nj cs ea eb tt) (hg : gM (J 1) ns nj cs ea eb tt) {X : Nat → Bool} {v2 v3 : Int32} (hX : ∀ j, j < nj → (X j = true ↔ nI j = v2 ∨ nI j = v3)) (K : Int32 → Int32 → Int32 → Int32 → Option Int32) {R : Nat} (hR : R < 65536) : ∀ (m k fuel G : Nat), k + m = nj → m < fuel → G < 65536 → (∀ q, G.testBit q = true ↔ R.testBit q = true ∨ ∃ p, R.testBit p = true ∧ ∃ j, j < k ∧ X j = false ∧ zjE ea eb tt j p q) → ∃ G', G' < 65536 ∧ fm_reachedBut_L22 J K fuel v2 v3 (nI G) (nI R) (nI k) = K v2 v3 (nI G') (nI R) ∧ ∀ q, G'.testBit q = true ↔ R.testBit q = true ∨ ∃ p, R.testBit p = true ∧ zjX nj ea eb tt X p q := by
  have hnj := hG.2.1
  intro m
  induction m with
  | zero =>
    intro k fuel G hk hf hGl hb
    obtain ⟨f, rfl⟩ : ∃ f, fuel = f + 1 := ⟨fuel - 1, by omega⟩
    have : k = nj := by omega
    subst this
    exact ⟨G, hGl, by rw [fm_reachedBut_L22, zcl1, hg.2.1, if_pos (nI_le (by omega) (by omega))], hb⟩
  | succ m ih =>
    intro k fuel G hk hf hGl hb
    obtain ⟨f, rfl⟩ : ∃ f, fuel = f + 1 := ⟨fuel - 1, by omega⟩
    have hx := hX k (by omega)
    rw [fm_reachedBut_L22, zcl1, hg.2.1, if_neg (nI_ge (by omega) (by omega)), nI_1]
    cases eX : X k with
    | true =>
      have hskip := ih (k + 1) f G (by omega) (by omega) hGl (fun q => by
        rw [hb q]
        constructor
        · rintro (h | ⟨p, h1, j, h2, h3, h4⟩)
          · exact Or.inl h
          · exact Or.inr ⟨p, h1, j, by omega, h3, h4⟩
        · rintro (h | ⟨p, h1, j, h2, h3, h4⟩)
          · exact Or.inl h
          · have : j ≠ k := fun e => by subst e; rw [eX] at h3; cases h3
            exact Or.inr ⟨p, h1, j, by omega, h3, h4⟩)
      by_cases h2 : nI k = v2
      · rw [if_pos h2]; exact hskip
      · rcases hx.mp eX with h3 | h3
        · exact absurd h3 h2
        · rw [if_neg h2, if_pos h3]; exact hskip
    | false =>
      have hn2 : ¬ nI k = v2 := fun e => by have := hx.mpr (Or.inl e); rw [eX] at this; cases this
      have hn3 : ¬ nI k = v3 := fun e => by have := hx.mpr (Or.inr e); rw [eX] at this; cases this
      obtain ⟨Q, q1, q2, q3⟩ := m_crossed hG hg hR (j := k) (by omega)
      rw [if_neg hn2, if_neg hn3, q2, Option.bind_some, zl_or]
      exact ih (k + 1) f (G ||| Q) (by omega) (by omega) (zor_lt hGl q1) (fun q => by
        rw [Nat.testBit_or, Bool.or_eq_true, hb q, q3 q]
        constructor
        · rintro ((h | ⟨p, h1, j, h2, h3, h4⟩) | ⟨p, h1, h2⟩)
          · exact Or.inl h
          · exact Or.inr ⟨p, h1, j, by omega, h3, h4⟩
          · exact Or.inr ⟨p, h1, k, by omega, eX, h2⟩
        · rintro (h | ⟨p, h1, j, h2, h3, h4⟩)
          · exact Or.inl (Or.inl h)
          · by_cases hjk : j = k
            · subst hjk; exact Or.inr ⟨p, h1, h4⟩
            · exact Or.inl (Or.inr ⟨p, h1, j, by omega, h3, h4⟩))
theorem zbits_le (R : Nat) : zsum (fun q => R.testBit q) (fun _ => 1) 16 ≤ 16 := zsum_le (fun _ => Nat.le_refl _) 16
theorem zbits_lt {R W : Nat} (hR : R < 65536) (h : ∀ q, W.testBit q = true → R.testBit q = true) (hne : R ≠ W) : zsum (fun q => W.testBit q) (fun _ => 1) 16 + 1 ≤ zsum (fun q => R.testBit q) (fun _ => 1) 16 := by
  have : ∃ q, R.testBit q = true ∧ W.testBit q = false := by
    apply Classical.byContradiction
    intro hn
    apply hne
    apply Nat.eq_of_testBit_eq
    intro q
    cases eW : W.testBit q with
    | true => exact h q eW
    | false =>
      cases eR : R.testBit q with
      | false => rfl
      | true => exact absurd ⟨q, eR, eW⟩ hn
  obtain ⟨q, h1, h2⟩ := this
  refine (zsum_lt (cur := q) h h2 h1 16).2 ?_
  apply Classical.byContradiction
  intro hq
  have := Nat.testBit_lt_two_pow (Nat.lt_of_lt_of_le hR (Nat.pow_le_pow_right (show 0 < 2 by omega) (show 16 ≤ q by omega)))
  rw [this] at h1
  cases h1
theorem m_rb8 {J : zI} {ns nj : Nat} {cs ea eb tt : Nat → Nat} (hG : wfG ns nj cs ea eb tt) (hg : gM (J 1) ns nj cs ea eb tt) {X : Nat → Bool} {v2 v3 : Int32} (hX : ∀ j, j < nj → (X j = true ↔ nI j = v2 ∨ nI j = v3)) {a : Nat} : ∀ (m fuel R W : Nat), R < 65536 → W < 65536 → m + 2 ≤ fuel → 16 ≤ zsum (fun q => W.testBit q) (fun _ => 1) 16 + m → R.testBit a = true → (∀ q, R.testBit q = true → ∃ n, zjp (zjX nj ea eb tt X) n a q) → (W = 0 ∧ R ≠ 0 ∨ ∀ q, R.testBit q = true ↔ W.testBit q = true ∨ ∃ p, W.testBit p = true ∧ zjX nj ea eb tt X p q) → ∃ R', R' < 65536 ∧ fm_reachedBut_L8 J fuel v2 v3 (nI R) (nI W) = some (nI R') ∧ ∀ q, R'.testBit q = true ↔ ∃ n, zjp (zjX nj ea eb tt X) n a q := by
  have hnj := hG.2.1
  intro m
  induction m with
  | zero =>
    intro fuel R W hR hW hf hm ha hs hcl
    obtain ⟨f, rfl⟩ : ∃ f, fuel = f + 1 := ⟨fuel - 1, by omega⟩
    have hsub : ∀ q, W.testBit q = true → R.testBit q = true := fun q hq => by
      rcases hcl with ⟨h1, _⟩ | h1
      · rw [h1, Nat.zero_testBit] at hq; cases hq
      · exact (h1 q).mpr (Or.inl hq)
    have hRW : R = W := by
      apply Classical.byContradiction
      intro hne
      have h1 := zbits_lt hR hsub hne
      have h2 := zbits_le R
      omega
    refine ⟨R, hR, by rw [fm_reachedBut_L8, hRW, if_pos rfl], fun q => ⟨hs q, ?_⟩⟩
    rcases hcl with ⟨h1, h2⟩ | h1
    · exact absurd (hRW.trans h1) h2
    · rintro ⟨n, hn⟩
      induction n generalizing q with
      | zero =>
        have e : a = q := hn
        rw [← e]; exact ha
      | succ n ihn =>
        obtain ⟨p, k1, k2⟩ := hn
        have hp := ihn p k1
        rw [hRW] at hp
        exact (h1 q).mpr (Or.inr ⟨p, hp, k2⟩)
  | succ m ih =>
    intro fuel R W hR hW hf hm ha hs hcl
    obtain ⟨f, rfl⟩ : ∃ f, fuel = f + 1 := ⟨fuel - 1, by omega⟩
    have hsub : ∀ q, W.testBit q = true → R.testBit q = true := fun q hq => by
      rcases hcl with ⟨h1, _⟩ | h1
      · rw [h1, Nat.zero_testBit] at hq; cases hq
      · exact (h1 q).mpr (Or.inl hq)
    by_cases hRW : R = W
    · refine ⟨R, hR, by rw [fm_reachedBut_L8, hRW, if_pos rfl], fun q => ⟨hs q, ?_⟩⟩
      rcases hcl with ⟨h1, h2⟩ | h1
      · exact absurd (hRW.trans h1) h2
      · rintro ⟨n, hn⟩
        induction n generalizing q with
        | zero =>
          have e : a = q := hn
          rw [← e]; exact ha
        | succ n ihn =>
          obtain ⟨p, k1, k2⟩ := hn
          have hp := ihn p k1
          rw [hRW] at hp
          exact (h1 q).mpr (Or.inr ⟨p, hp, k2⟩)
    · have h1 := zbits_lt hR hsub hRW
      obtain ⟨G, g1, g2, g3⟩ := m_rb22 hG hg hX (fun (u7 : Int32) (u8 : Int32) (u9 : Int32) (u10 : Int32) => fm_reachedBut_L8 J f u7 u8 u9 u10) hR nj 0 100 R (by omega) (by omega) hR (fun q => ⟨Or.inl, fun h => by
        rcases h with h | ⟨p, _, j, h2, _⟩
        · exact h
        · omega⟩)
      have g2 : fm_reachedBut_L22 J (fun (u7 : Int32) (u8 : Int32) (u9 : Int32) (u10 : Int32) => fm_reachedBut_L8 J f u7 u8 u9 u10) 100 v2 v3 (nI R) (nI R) (0 : Int32) = fm_reachedBut_L8 J f v2 v3 (nI G) (nI R) := g2
      rw [fm_reachedBut_L8, if_neg (show ¬ nI R = nI W from fun e => hRW ((nI_eq (by omega) (by omega)).mp e)), g2]
      exact ih f G R g1 hR (by omega) (by omega) ((g3 a).mpr (Or.inl ha)) (fun q hq => by
        rcases (g3 q).mp hq with h | ⟨p, k1, k2⟩
        · exact hs q h
        · obtain ⟨n, hn⟩ := hs p k1
          exact ⟨n + 1, p, hn, k2⟩) (Or.inr g3)
theorem m_reachedBut {J : zI} {ns nj : Nat} {cs ea eb tt : Nat → Nat} (hG : wfG ns nj cs ea eb tt) (hg : gM (J 1) ns nj cs ea eb tt) {X : Nat → Bool} {v2 v3 : Int32} (hX : ∀ j, j < nj → (X j = true ↔ nI j = v2 ∨ nI j = v3)) {a : Nat} (ha : a < 16) : ∃ R, R < 65536 ∧ fm_reachedBut J (nI a) v2 v3 = some (nI R) ∧ ∀ q, R.testBit q = true ↔ ∃ n, zjp (zjX nj ea eb tt X) n a q := by
  have hpw : 2 ^ a < 2 ^ 16 := Nat.pow_lt_pow_right (by omega) ha
  have hp0 : 0 < 2 ^ a := Nat.two_pow_pos a
  have hbit : ∀ q, (2 ^ a).testBit q = true ↔ a = q := fun q => by rw [Nat.testBit_two_pow, decide_eq_true_eq]
  obtain ⟨R, r1, r2, r3⟩ := m_rb8 hG hg hX (a := a) 16 100 (2 ^ a) 0 hpw (by omega) (by omega) (by omega) ((hbit a).mpr rfl) (fun q hq => ⟨0, (hbit q).mp hq⟩) (Or.inl ⟨rfl, by omega⟩)
  refine ⟨R, r1, ?_, r3⟩
  unfold fm_reachedBut
  rw [zshl2 a ha]
  exact r2
/-! joins and crossings say the same -/
theorem jn_own {ns nj : Nat} {cs ea eb tt : Nat → Nat} (hG : wfG ns nj cs ea eb tt) {j e : Nat} (hj : j < nj) (he : ea j = e ∨ eb j = e) : jn ea eb nj e = some j := by
  cases h : jn ea eb nj e with
  | none =>
    have := jn_none.mp h j hj
    rcases he with he | he
    · exact absurd he this.1
    · exact absurd he this.2
  | some i =>
    obtain ⟨i1, i2⟩ := jn_some h
    have hij : i = j := by
      rcases Nat.lt_trichotomy i j with hl | hl | hl
      · have d := hG.2.2.2.2 j i hj hl
        rcases he with he | he <;> rcases i2 with i2 | i2 <;> omega
      · exact hl
      · have d := hG.2.2.2.2 i j i1 hl
        rcases he with he | he <;> rcases i2 with i2 | i2 <;> omega
    rw [hij]
theorem zjX_T {ns nj : Nat} {cs ea eb tt : Nat → Nat} (hG : wfG ns nj cs ea eb tt) {t : Option (List (Nat × Nat))} {p q : Nat} (hp : p < 2 * ns) : zjX nj ea eb tt (fun _ => false) p q ↔ ∃ e h, e < 4 ∧ zcr nj cs ea eb tt t p e = some (q, h) := by
  constructor
  · rintro ⟨j, j1, _, x, hx, h⟩
    obtain ⟨a1, a2, a3, a4⟩ := hG.2.2.2.1 j j1
    rcases h with ⟨h1, h2⟩ | ⟨h1, h2⟩
    · have e1 : 4 * (p / 2) + ea j % 4 = ea j := by omega
      have hjn := jn_own hG j1 (e := ea j) (Or.inl rfl)
      refine ⟨ea j % 4, zhr t (cs (p / 2)) (cs (eb j / 4)) (p % 2) (tt j), by omega, ?_⟩
      unfold zcr
      rw [e1, hjn, Option.map_some, if_pos rfl, h2, show p % 2 = x by omega]
    · have e1 : 4 * (p / 2) + eb j % 4 = eb j := by omega
      have hjn := jn_own hG j1 (e := eb j) (Or.inr rfl)
      refine ⟨eb j % 4, zhr t (cs (p / 2)) (cs (ea j / 4)) (p % 2) (tt j), by omega, ?_⟩
      unfold zcr
      rw [e1, hjn, Option.map_some, if_neg a3, h2, show p % 2 = x by omega]
  · rintro ⟨e, h, he, hT⟩
    unfold zcr at hT
    cases hj : jn ea eb nj (4 * (p / 2) + e) with
    | none => rw [hj] at hT; cases hT
    | some j =>
      rw [hj, Option.map_some] at hT
      obtain ⟨j1, j2⟩ := jn_some hj
      have hT := Option.some.inj hT
      have hq : 2 * ((if ea j = 4 * (p / 2) + e then eb j else ea j) / 4) + (p % 2 ^^^ tt j) = q := congrArg Prod.fst hT
      refine ⟨j, j1, rfl, p % 2, by omega, ?_⟩
      by_cases h1 : ea j = 4 * (p / 2) + e
      · rw [if_pos h1] at hq
        exact Or.inl ⟨by omega, hq.symm⟩
      · rw [if_neg h1] at hq
        rcases j2 with j2 | j2
        · exact absurd j2 h1
        · exact Or.inr ⟨by omega, hq.symm⟩
theorem zreach {ns nj : Nat} {cs ea eb tt : Nat → Nat} (hG : wfG ns nj cs ea eb tt) {t : Option (List (Nat × Nat))} {a : Nat} (ha : a < 2 * ns) {D : Nat → Option Nat} (hD : zds ns (zcr nj cs ea eb tt t) a D) (b : Nat) : (∃ n, zjp (zjX nj ea eb tt (fun _ => false)) n a b) ↔ ∃ d, D b = some d := by
  have hT := mk_wT hG t
  constructor
  · rintro ⟨n, hn⟩
    have : ∃ k d, zwlk (zcr nj cs ea eb tt t) k a b d := by
      induction n generalizing b with
      | zero => exact ⟨0, 0, hn, rfl⟩
      | succ n ih =>
        obtain ⟨p, h1, h2⟩ := hn
        obtain ⟨k, d, hk⟩ := ih p h1
        have hp := zwlk_lt hT k a d ha hk
        obtain ⟨e, h, he, hte⟩ := (zjX_T hG hp).mp h2
        exact ⟨k + 1, d + h, zwlk_app he hte k a d hk⟩
    obtain ⟨k, d, hk⟩ := this
    obtain ⟨d', h1, _⟩ := zds_min hT ha hD hk
    exact ⟨d', h1⟩
  · rintro ⟨d, hd⟩
    obtain ⟨k, hk⟩ := zds_walk hT hD (d + 1) b d (by omega) hd
    clear hd
    induction k generalizing b d with
    | zero => exact ⟨0, hk.1⟩
    | succ k ih =>
      obtain ⟨p, e, h, d', k1, k2, k3, k4⟩ := zwlk_last k a d hk
      obtain ⟨n, hn⟩ := ih p d' k1
      exact ⟨n + 1, p, hn, (zjX_T hG (zwlk_lt hT k a d' ha k1)).mpr ⟨e, h, k2, k3⟩⟩
