/-! ways: what the least hours are -/
def zwlk (T : Nat → Nat → Option (Nat × Nat)) : Nat → Nat → Nat → Nat → Prop
  | 0, a, b, d => a = b ∧ d = 0
  | n + 1, a, b, d => ∃ e p h d', e < 4 ∧ T a e = some (p, h) ∧ zwlk T n p b d' ∧ d = h + d'
theorem zwlk_app {T : Nat → Nat → Option (Nat × Nat)} {b e c h : Nat} (he : e < 4) (hb : T b e = some (c, h)) : ∀ n a d, zwlk T n a b d → zwlk T (n + 1) a c (d + h)
  | 0, a, d, hw => by
    obtain ⟨rfl, rfl⟩ := hw
    exact ⟨e, c, h, 0, he, hb, ⟨rfl, rfl⟩, by omega⟩
  | n + 1, a, d, hw => by
    obtain ⟨e1, p, h1, d1, k1, k2, k3, k4⟩ := hw
    exact ⟨e1, p, h1, d1 + h, k1, k2, zwlk_app he hb n p d1 k3, by omega⟩
theorem zwlk_last {T : Nat → Nat → Option (Nat × Nat)} {c : Nat} : ∀ n a d, zwlk T (n + 1) a c d → ∃ b e h d', zwlk T n a b d' ∧ e < 4 ∧ T b e = some (c, h) ∧ d = d' + h
  | 0, a, d, hw => by
    obtain ⟨e1, p, h1, d1, k1, k2, ⟨rfl, rfl⟩, k4⟩ := hw
    exact ⟨a, e1, h1, 0, ⟨rfl, rfl⟩, k1, k2, by omega⟩
  | n + 1, a, d, hw => by
    obtain ⟨e1, p, h1, d1, k1, k2, k3, k4⟩ := hw
    obtain ⟨b, e, h, d', j1, j2, j3, j4⟩ := zwlk_last n p d1 k3
    exact ⟨b, e, h, h1 + d', ⟨e1, p, h1, d', k1, k2, j1, rfl⟩, j2, j3, by omega⟩
theorem zwlk_lt {ns : Nat} {T : Nat → Nat → Option (Nat × Nat)} (hT : wT ns T) {b : Nat} : ∀ n a d, a < 2 * ns → zwlk T n a b d → b < 2 * ns
  | 0, a, d, ha, hw => by
    obtain ⟨rfl, rfl⟩ := hw
    exact ha
  | n + 1, a, d, ha, hw => by
    obtain ⟨e1, p, h1, d1, k1, k2, k3, k4⟩ := hw
    exact zwlk_lt hT n p d1 (hT.2 a e1 (p, h1) ha k1 k2).1 k3
def zds (ns : Nat) (T : Nat → Nat → Option (Nat × Nat)) (a : Nat) (D : Nat → Option Nat) : Prop := D a = some 0 ∧ (∀ p d, D p = some d → p < 2 * ns ∧ d ≤ 15984) ∧
  (∀ p e q h d, p < 2 * ns → e < 4 → T p e = some (q, h) → D p = some d → ∃ d', D q = some d' ∧ d' ≤ d + h) ∧
  ∀ q d, q ≠ a → D q = some d → ∃ p e h d', p < 2 * ns ∧ e < 4 ∧ T p e = some (q, h) ∧ D p = some d' ∧ d' + h = d
theorem zds_walk {ns : Nat} {T : Nat → Nat → Option (Nat × Nat)} (hT : wT ns T) {a : Nat} {D : Nat → Option Nat} (hD : zds ns T a D) : ∀ N b d, d < N → D b = some d → ∃ n, zwlk T n a b d
  | 0, b, d, hN, hb => by omega
  | N + 1, b, d, hN, hb => by
    by_cases hab : b = a
    · subst hab
      rw [hD.1] at hb
      cases hb
      exact ⟨0, rfl, rfl⟩
    · obtain ⟨p, e, h, d', h1, h2, h3, h4, h5⟩ := hD.2.2.2 b d hab hb
      have hh := (hT.2 p e (b, h) h1 h2 h3).2.1
      simp only at hh
      obtain ⟨n, hn⟩ := zds_walk hT hD N p d' (by omega) h4
      rw [← h5]
      exact ⟨n + 1, zwlk_app h2 h3 n a d' hn⟩
theorem zds_le {ns : Nat} {T : Nat → Nat → Option (Nat × Nat)} (hT : wT ns T) {a : Nat} {D : Nat → Option Nat} (hD : zds ns T a D) {b : Nat} : ∀ n p d d0, p < 2 * ns → D p = some d0 → zwlk T n p b d → ∃ d', D b = some d' ∧ d' ≤ d0 + d
  | 0, p, d, d0, hp, h0, hw => by
    obtain ⟨rfl, rfl⟩ := hw
    exact ⟨d0, h0, by omega⟩
  | n + 1, p, d, d0, hp, h0, hw => by
    obtain ⟨e1, q, h1, d1, k1, k2, k3, k4⟩ := hw
    obtain ⟨d2, j1, j2⟩ := hD.2.2.1 p e1 q h1 d0 hp k1 k2 h0
    obtain ⟨d3, i1, i2⟩ := zds_le hT hD n q d1 d2 (hT.2 p e1 (q, h1) hp k1 k2).1 j1 k3
    exact ⟨d3, i1, by omega⟩
theorem zds_min {ns : Nat} {T : Nat → Nat → Option (Nat × Nat)} (hT : wT ns T) {a : Nat} (ha : a < 2 * ns) {D : Nat → Option Nat} (hD : zds ns T a D) {n b d : Nat} (hw : zwlk T n a b d) : ∃ d', D b = some d' ∧ d' ≤ d := by
  obtain ⟨d', h1, h2⟩ := zds_le hT hD n a d 0 ha hD.1 hw
  exact ⟨d', h1, by omega⟩
theorem zds_uniq {ns : Nat} {T : Nat → Nat → Option (Nat × Nat)} (hT : wT ns T) {a : Nat} (ha : a < 2 * ns) {D D' : Nat → Option Nat} (hD : zds ns T a D) (hD' : zds ns T a D') (b : Nat) : D b = D' b := by
  cases e : D b with
  | none =>
    cases e' : D' b with
    | none => rfl
    | some d =>
      obtain ⟨n, hn⟩ := zds_walk hT hD' (d + 1) b d (by omega) e'
      obtain ⟨d', h1, h2⟩ := zds_min hT ha hD hn
      rw [e] at h1; cases h1
  | some d =>
    obtain ⟨n, hn⟩ := zds_walk hT hD (d + 1) b d (by omega) e
    obtain ⟨d', h1, h2⟩ := zds_min hT ha hD' hn
    obtain ⟨n', hn'⟩ := zds_walk hT hD' (d' + 1) b d' (by omega) h1
    obtain ⟨d2, h3, h4⟩ := zds_min hT ha hD hn'
    rw [e] at h3
    cases h3
    rw [h1, show d' = d by omega]
/-- the edges crossed first on a soonest way, as bits -/
def zFs (ns : Nat) (T : Nat → Nat → Option (Nat × Nat)) (a : Nat) (D : Nat → Option Nat) (F : Nat → Nat) : Prop := (∀ q, F q < 16) ∧ ∀ q j, j < 4 → ((F q).testBit j = true ↔ q ≠ a ∧ ∃ p e h d d', (p < 2 * ns ∧ e < 4) ∧ T p e = some (q, h) ∧ D p = some d' ∧ D q = some d ∧ d' + h = d ∧ (p = a ∧ e = j ∨ p ≠ a ∧ (F p).testBit j = true))
theorem zFs_walk {ns : Nat} {T : Nat → Nat → Option (Nat × Nat)} (hT : wT ns T) {a : Nat} {D : Nat → Option Nat} {F : Nat → Nat} (hD : zds ns T a D) (hF : zFs ns T a D F) {j : Nat} (hj : j < 4) : ∀ N b d, d < N → D b = some d → b ≠ a → (F b).testBit j = true → ∃ r h d' n, T a j = some (r, h) ∧ zwlk T n r b d' ∧ h + d' = d
  | 0, b, d, hN, hb, hab, hf => by omega
  | N + 1, b, d, hN, hb, hab, hf => by
    obtain ⟨_, p, e, h, d1, d', ⟨h1, h2⟩, h3, h4, h5, h6, h7⟩ := (hF.2 b j hj).mp hf
    rw [hb] at h5
    cases h5
    have hh := (hT.2 p e (b, h) h1 h2 h3).2.1
    simp only at hh
    rcases h7 with ⟨rfl, rfl⟩ | ⟨h8, h9⟩
    · rw [hD.1] at h4
      cases h4
      exact ⟨b, h, 0, 0, h3, ⟨rfl, rfl⟩, by omega⟩
    · obtain ⟨r, h0, d2, n, k1, k2, k3⟩ := zFs_walk hT hD hF hj N p d' (by omega) h4 h8 h9
      exact ⟨r, h0, d2 + h, n + 1, k1, zwlk_app h2 h3 n r d2 k2, by omega⟩
theorem zFs_of {ns : Nat} {T : Nat → Nat → Option (Nat × Nat)} (hT : wT ns T) {a : Nat} (ha : a < 2 * ns) {D : Nat → Option Nat} {F : Nat → Nat} (hD : zds ns T a D) (hF : zFs ns T a D F) {j : Nat} (hj : j < 4) {r h : Nat} (hr : T a j = some (r, h)) : ∀ n b d d', D b = some d → b ≠ a → zwlk T n r b d' → h + d' = d → (F b).testBit j = true
  | 0, b, d, d', hb, hab, hw, hd => by
    obtain ⟨rfl, rfl⟩ := hw
    exact (hF.2 r j hj).mpr ⟨hab, a, j, h, d, 0, ⟨ha, hj⟩, hr, hD.1, hb, by omega, Or.inl ⟨rfl, rfl⟩⟩
  | n + 1, b, d, d', hb, hab, hw, hd => by
    obtain ⟨p, e, h1, d1, k1, k2, k3, k4⟩ := zwlk_last n r d' hw
    have hr2 := hT.2 a j (r, h) ha hj hr
    simp only at hr2
    have hp := zwlk_lt hT n r d1 hr2.1 k1
    have hwp : zwlk T (n + 1) a p (h + d1) := ⟨j, r, h, d1, hj, hr, k1, rfl⟩
    obtain ⟨dp, i1, i2⟩ := zds_min hT ha hD hwp
    obtain ⟨db, i3, i4⟩ := hD.2.2.1 p e b h1 dp hp k2 k3 i1
    rw [hb] at i3
    cases i3
    have hpa : p ≠ a := fun q => by
      subst q
      rw [hD.1] at i1
      cases i1
      omega
    have ih := zFs_of hT ha hD hF hj hr n p dp d1 i1 hpa k1 (by omega)
    exact (hF.2 b j hj).mpr ⟨hab, p, e, h1, d, dp, ⟨hp, k2⟩, k3, i1, hb, by omega, Or.inr ⟨hpa, ih⟩⟩
/-! the class's way to them: places are settled one by one -/
def zJ (ns : Nat) (T : Nat → Nat → Option (Nat × Nat)) (a c N : Nat) (P : Nat → Nat → Prop) (L : Nat → Option Nat) (F : Nat → Nat) : Prop := L a = some 0 ∧ (∀ p d, L p = some d → p < 2 * ns ∧ d ≤ N) ∧ (∀ p e, P p e → p < 2 * ns ∧ e < 4 ∧ ∃ d, L p = some d ∧ d ≤ c) ∧
  (∀ p e q h d, P p e → T p e = some (q, h) → L p = some d → ∃ d', L q = some d' ∧ d' ≤ d + h) ∧
  (∀ q d, q ≠ a → L q = some d → ∃ p e h d', P p e ∧ T p e = some (q, h) ∧ L p = some d' ∧ d' + h = d) ∧ (∀ q, F q < 16) ∧
  ∀ q j, j < 4 → ((F q).testBit j = true ↔ q ≠ a ∧ ∃ p e h d d', P p e ∧ T p e = some (q, h) ∧ L p = some d' ∧ L q = some d ∧ d' + h = d ∧ (p = a ∧ e = j ∨ p ≠ a ∧ (F p).testBit j = true))
theorem zJ_mono {ns : Nat} {T : Nat → Nat → Option (Nat × Nat)} {a c N c' N' : Nat} {P : Nat → Nat → Prop} {L : Nat → Option Nat} {F : Nat → Nat} (h : zJ ns T a c N P L F) (hc : c ≤ c') (hN : N ≤ N') : zJ ns T a c' N' P L F := by
  obtain ⟨j1, j2, j3, j4, j5, j6, j7⟩ := h
  refine ⟨j1, fun p d hp => ⟨(j2 p d hp).1, Nat.le_trans (j2 p d hp).2 hN⟩, fun p e hp => ?_, j4, j5, j6, j7⟩
  obtain ⟨k1, k2, d, k3, k4⟩ := j3 p e hp
  exact ⟨k1, k2, d, k3, Nat.le_trans k4 hc⟩
theorem zJ_no {ns : Nat} {T : Nat → Nat → Option (Nat × Nat)} {a c N cur k : Nat} {P P' : Nat → Nat → Prop} {L : Nat → Option Nat} {F : Nat → Nat} (h : zJ ns T a c N P L F) (hP : ∀ p e, P' p e ↔ P p e ∨ (p = cur ∧ e = k)) (hcur : cur < 2 * ns) (hk : k < 4) (hc : L cur = some c) (hn : ∀ q h0, T cur k = some (q, h0) → ∃ d, L q = some d ∧ d < c + h0) : zJ ns T a c N P' L F := by
  obtain ⟨j1, j2, j3, j4, j5, j6, j7⟩ := h
  refine ⟨j1, j2, fun p e hp => ?_, fun p e q h0 d hp ht hl => ?_, fun q d hq hl => ?_, j6, fun q j hj => ?_⟩
  · rcases (hP p e).mp hp with hp | ⟨rfl, rfl⟩
    · exact j3 p e hp
    · exact ⟨hcur, hk, c, hc, Nat.le_refl _⟩
  · rcases (hP p e).mp hp with hp | ⟨rfl, rfl⟩
    · exact j4 p e q h0 d hp ht hl
    · obtain ⟨d2, k1, k2⟩ := hn q h0 ht
      rw [hc] at hl
      cases hl
      exact ⟨d2, k1, by omega⟩
  · obtain ⟨p, e, h0, d', k1, k2⟩ := j5 q d hq hl
    exact ⟨p, e, h0, d', (hP p e).mpr (Or.inl k1), k2⟩
  · rw [j7 q j hj]
    constructor
    · rintro ⟨k0, p, e, h0, d, d', k1, k2⟩
      exact ⟨k0, p, e, h0, d, d', (hP p e).mpr (Or.inl k1), k2⟩
    · rintro ⟨k0, p, e, h0, d, d', k1, k2, k3, k4, k5, k6⟩
      rcases (hP p e).mp k1 with k1 | ⟨rfl, rfl⟩
      · exact ⟨k0, p, e, h0, d, d', k1, k2, k3, k4, k5, k6⟩
      · obtain ⟨d2, i1, i2⟩ := hn q h0 k2
        rw [hc] at k3
        cases k3
        rw [i1] at k4
        cases k4
        omega
theorem zJ_set {ns : Nat} {T : Nat → Nat → Option (Nat × Nat)} (hT : wT ns T) {a c N cur k q h0 fv : Nat} {P P' : Nat → Nat → Prop} {L : Nat → Option Nat} {F : Nat → Nat} (h : zJ ns T a c N P L F) (hP : ∀ p e, P' p e ↔ P p e ∨ (p = cur ∧ e = k)) (hcur : cur < 2 * ns) (hk : k < 4) (hc : L cur = some c) (ht : T cur k = some (q, h0)) (hq : ∀ d, L q = some d → c + h0 < d) (hN : c + 999 ≤ N) (hf16 : fv < 16) (hfv : ∀ j, j < 4 → (fv.testBit j = true ↔ (cur = a ∧ k = j ∨ cur ≠ a ∧ (F cur).testBit j = true))) : zJ ns T a c N P' (vup L q (some (c + h0))) (vup F q fv) := by
  obtain ⟨j1, j2, j3, j4, j5, j6, j7⟩ := h
  have ht2 := hT.2 cur k (q, h0) hcur hk ht
  simp only at ht2
  have hqa : a ≠ q := fun e => by subst e; have := hq 0 j1; omega
  have hqc : cur ≠ q := fun e => by subst e; have := hq c hc; omega
  have hpq : ∀ p e, P p e → p ≠ q := fun p e hp e2 => by
    subst e2
    obtain ⟨_, _, d, k3, k4⟩ := j3 p e hp
    have := hq d k3
    omega
  refine ⟨by rw [vup_n hqa]; exact j1, fun p d hp => ?_, fun p e hp => ?_, fun p e q2 h2 d hp ht3 hl => ?_, fun q2 d hq2 hl => ?_, fun q2 => ?_, fun q2 j hj => ?_⟩
  · by_cases e : p = q
    · subst e
      rw [vup_s] at hp
      cases hp
      exact ⟨ht2.1, by omega⟩
    · rw [vup_n e] at hp
      exact j2 p d hp
  · rcases (hP p e).mp hp with hp | ⟨rfl, rfl⟩
    · rw [vup_n (hpq p e hp)]
      exact j3 p e hp
    · rw [vup_n hqc]
      exact ⟨hcur, hk, c, hc, Nat.le_refl _⟩
  · rcases (hP p e).mp hp with hp | ⟨rfl, rfl⟩
    · rw [vup_n (hpq p e hp)] at hl
      obtain ⟨d', k1, k2⟩ := j4 p e q2 h2 d hp ht3 hl
      by_cases e2 : q2 = q
      · subst e2
        rw [vup_s]
        have := hq d' k1
        exact ⟨_, rfl, by omega⟩
      · rw [vup_n e2]
        exact ⟨d', k1, k2⟩
    · rw [vup_n hqc, hc] at hl
      cases hl
      rw [ht] at ht3
      cases ht3
      rw [vup_s]
      exact ⟨_, rfl, Nat.le_refl _⟩
  · by_cases e2 : q2 = q
    · subst e2
      rw [vup_s] at hl
      cases hl
      exact ⟨cur, k, h0, c, (hP cur k).mpr (Or.inr ⟨rfl, rfl⟩), ht, by rw [vup_n hqc]; exact hc, rfl⟩
    · rw [vup_n e2] at hl
      obtain ⟨p, e, h2, d', k1, k2, k3, k4⟩ := j5 q2 d hq2 hl
      exact ⟨p, e, h2, d', (hP p e).mpr (Or.inl k1), k2, by rw [vup_n (hpq p e k1)]; exact k3, k4⟩
  · by_cases e2 : q2 = q
    · rw [e2, vup_s]; exact hf16
    · rw [vup_n e2]; exact j6 q2
  · by_cases e2 : q2 = q
    · subst e2
      rw [vup_s, vup_s, hfv j hj]
      constructor
      · intro hh
        exact ⟨fun e => hqa e.symm, cur, k, h0, c + h0, c, (hP cur k).mpr (Or.inr ⟨rfl, rfl⟩), ht, by rw [vup_n hqc]; exact hc, rfl, rfl, by rw [vup_n hqc]; exact hh⟩
      · rintro ⟨_, p, e, h2, d, d', k1, k2, k3, k4, k5, k6⟩
        cases k4
        rcases (hP p e).mp k1 with k1 | ⟨rfl, rfl⟩
        · rw [vup_n (hpq p e k1)] at k3
          obtain ⟨d2, i1, i2⟩ := j4 p e q2 h2 d' k1 k2 k3
          have := hq d2 i1
          omega
        · rw [vup_n hqc] at k6
          exact k6
    · rw [vup_n e2, vup_n e2, j7 q2 j hj]
      constructor
      · rintro ⟨k0, p, e, h2, d, d', k1, k2, k3, k4, k5, k6⟩
        exact ⟨k0, p, e, h2, d, d', (hP p e).mpr (Or.inl k1), k2, by rw [vup_n (hpq p e k1)]; exact k3, k4, k5, by rw [vup_n (hpq p e k1)]; exact k6⟩
      · rintro ⟨k0, p, e, h2, d, d', k1, k2, k3, k4, k5, k6⟩
        rcases (hP p e).mp k1 with k1 | ⟨rfl, rfl⟩
        · rw [vup_n (hpq p e k1)] at k3 k6
          exact ⟨k0, p, e, h2, d, d', k1, k2, k3, k4, k5, k6⟩
        · rw [ht] at k2
          cases k2
          exact absurd rfl e2
theorem zJ_tie {ns : Nat} {T : Nat → Nat → Option (Nat × Nat)} (hT : wT ns T) {a c N cur k q h0 fv : Nat} {P P' : Nat → Nat → Prop} {L : Nat → Option Nat} {F : Nat → Nat} (h : zJ ns T a c N P L F) (hP : ∀ p e, P' p e ↔ P p e ∨ (p = cur ∧ e = k)) (hcur : cur < 2 * ns) (hk : k < 4) (hc : L cur = some c) (ht : T cur k = some (q, h0)) (hq : L q = some (c + h0)) (hf16 : fv < 16) (hfv : ∀ j, j < 4 → (fv.testBit j = true ↔ (cur = a ∧ k = j ∨ cur ≠ a ∧ (F cur).testBit j = true))) : zJ ns T a c N P' L (vup F q (F q ||| fv)) := by
  obtain ⟨j1, j2, j3, j4, j5, j6, j7⟩ := h
  have ht2 := hT.2 cur k (q, h0) hcur hk ht
  simp only at ht2
  have hqa : a ≠ q := fun e => by subst e; rw [j1] at hq; have := Option.some.inj hq; omega
  have hqc : cur ≠ q := fun e => by subst e; rw [hc] at hq; have := Option.some.inj hq; omega
  have hpq : ∀ p e, P p e → p ≠ q := fun p e hp e2 => by
    subst e2
    obtain ⟨_, _, d, k3, k4⟩ := j3 p e hp
    rw [hq] at k3
    cases k3
    omega
  refine ⟨j1, j2, fun p e hp => ?_, fun p e q2 h2 d hp ht3 hl => ?_, fun q2 d hq2 hl => ?_, fun q2 => ?_, fun q2 j hj => ?_⟩
  · rcases (hP p e).mp hp with hp | ⟨rfl, rfl⟩
    · exact j3 p e hp
    · exact ⟨hcur, hk, c, hc, Nat.le_refl _⟩
  · rcases (hP p e).mp hp with hp | ⟨rfl, rfl⟩
    · exact j4 p e q2 h2 d hp ht3 hl
    · rw [hc] at hl
      cases hl
      rw [ht] at ht3
      cases ht3
      exact ⟨_, hq, Nat.le_refl _⟩
  · obtain ⟨p, e, h2, d', k1, k2⟩ := j5 q2 d hq2 hl
    exact ⟨p, e, h2, d', (hP p e).mpr (Or.inl k1), k2⟩
  · by_cases e2 : q2 = q
    · rw [e2, vup_s]; exact Nat.or_lt_two_pow (n := 4) (j6 q) hf16
    · rw [vup_n e2]; exact j6 q2
  · by_cases e2 : q2 = q
    · subst e2
      rw [vup_s, Nat.testBit_or, Bool.or_eq_true, hfv j hj, j7 q2 j hj]
      constructor
      · rintro (⟨k0, p, e, h2, d, d', k1, k2, k3, k4, k5, k6⟩ | hh)
        · exact ⟨k0, p, e, h2, d, d', (hP p e).mpr (Or.inl k1), k2, k3, k4, k5, by rw [vup_n (hpq p e k1)]; exact k6⟩
        · exact ⟨fun e => hqa e.symm, cur, k, h0, c + h0, c, (hP cur k).mpr (Or.inr ⟨rfl, rfl⟩), ht, hc, hq, rfl, by rw [vup_n hqc]; exact hh⟩
      · rintro ⟨k0, p, e, h2, d, d', k1, k2, k3, k4, k5, k6⟩
        rcases (hP p e).mp k1 with k1 | ⟨rfl, rfl⟩
        · rw [vup_n (hpq p e k1)] at k6
          exact Or.inl ⟨k0, p, e, h2, d, d', k1, k2, k3, k4, k5, k6⟩
        · rw [vup_n hqc] at k6
          exact Or.inr k6
    · rw [vup_n e2, j7 q2 j hj]
      constructor
      · rintro ⟨k0, p, e, h2, d, d', k1, k2, k3, k4, k5, k6⟩
        exact ⟨k0, p, e, h2, d, d', (hP p e).mpr (Or.inl k1), k2, k3, k4, k5, by rw [vup_n (hpq p e k1)]; exact k6⟩
      · rintro ⟨k0, p, e, h2, d, d', k1, k2, k3, k4, k5, k6⟩
        rcases (hP p e).mp k1 with k1 | ⟨rfl, rfl⟩
        · rw [vup_n (hpq p e k1)] at k6
          exact ⟨k0, p, e, h2, d, d', k1, k2, k3, k4, k5, k6⟩
        · rw [ht] at k2
          cases k2
          exact absurd rfl e2
theorem zJ_end {ns : Nat} {T : Nat → Nat → Option (Nat × Nat)} {a c N : Nat} {P : Nat → Nat → Prop} {L : Nat → Option Nat} {F : Nat → Nat} (h : zJ ns T a c N P L F) (hN : N ≤ 15984) (hP : ∀ p d e, L p = some d → e < 4 → P p e) : zds ns T a L ∧ zFs ns T a L F := by
  obtain ⟨j1, j2, j3, j4, j5, j6, j7⟩ := h
  refine ⟨⟨j1, fun p d hp => ⟨(j2 p d hp).1, Nat.le_trans (j2 p d hp).2 hN⟩, fun p e q h0 d hp he ht hl => j4 p e q h0 d (hP p d e hl he) ht hl, fun q d hq hl => ?_⟩, j6, fun q j hj => ?_⟩
  · obtain ⟨p, e, h0, d', k1, k2⟩ := j5 q d hq hl
    exact ⟨p, e, h0, d', (j3 p e k1).1, (j3 p e k1).2.1, k2⟩
  · rw [j7 q j hj]
    constructor
    · rintro ⟨k0, p, e, h0, d, d', k1, k2⟩
      exact ⟨k0, p, e, h0, d, d', ⟨(j3 p e k1).1, (j3 p e k1).2.1⟩, k2⟩
    · rintro ⟨k0, p, e, h0, d, d', ⟨k1, k7⟩, k2, k3, k4⟩
      exact ⟨k0, p, e, h0, d, d', hP p d' e k3 k7, k2, k3, k4⟩
