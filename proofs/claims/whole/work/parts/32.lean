/-! submasks, by their number: zdq m i is the i-th submask of m -/
def zdq : Nat → Nat → Nat → Nat
  | 0, _, _ => 0
  | f + 1, m, i => if m % 2 = 0 then 2 * zdq f (m / 2) i else 2 * zdq f (m / 2) (i / 2) + i % 2
/-- how many bits the f lowest of m have -/
def zpq : Nat → Nat → Nat
  | 0, _ => 0
  | f + 1, m => zpq f (m / 2) + m % 2
theorem zand2 {a b x y : Nat} (hx : x < 2) (hy : y < 2) : (2 * a + x) &&& (2 * b + y) = 2 * (a &&& b) + (x &&& y) := by
  apply Nat.eq_of_testBit_eq
  intro i
  have hxy : x &&& y < 2 := Nat.lt_of_le_of_lt Nat.and_le_left hx
  match i with
  | 0 =>
    rw [Nat.testBit_and, Nat.testBit_zero, Nat.testBit_zero, Nat.testBit_zero]
    rcases (show x = 0 ∨ x = 1 by omega) with rfl | rfl <;> rcases (show y = 0 ∨ y = 1 by omega) with rfl | rfl <;> simp <;> omega
  | i + 1 =>
    rw [Nat.testBit_and, Nat.testBit_succ, Nat.testBit_succ, Nat.testBit_succ, show (2 * a + x) / 2 = a by omega, show (2 * b + y) / 2 = b by omega, show (2 * (a &&& b) + (x &&& y)) / 2 = a &&& b by omega, Nat.testBit_and]
theorem zdq_sub : ∀ f m i, zdq f m i &&& m = zdq f m i
  | 0, m, i => by rw [zdq]; exact Nat.zero_and m
  | f + 1, m, i => by
    rw [zdq]
    by_cases h : m % 2 = 0
    · rw [if_pos h]
      have := zand2 (a := zdq f (m / 2) i) (b := m / 2) (x := 0) (y := 0) (by omega) (by omega)
      rw [zdq_sub f (m / 2) i, show 2 * (m / 2) + 0 = m by omega] at this
      exact this
    · rw [if_neg h]
      have := zand2 (a := zdq f (m / 2) (i / 2)) (b := m / 2) (x := i % 2) (y := 1) (by omega) (by omega)
      rw [zdq_sub f (m / 2) (i / 2), show 2 * (m / 2) + 1 = m by omega, Nat.and_one_is_mod, Nat.mod_mod] at this
      exact this
theorem zdq_pos : ∀ f m i, i + 1 < 2 ^ zpq f m → 0 < zdq f m (i + 1)
  | 0, m, i, h => by rw [zpq] at h; omega
  | f + 1, m, i, h => by
    rw [zpq] at h
    rw [zdq]
    by_cases h2 : m % 2 = 0
    · rw [if_pos h2]
      rw [h2, Nat.add_zero] at h
      have := zdq_pos f (m / 2) i h
      omega
    · rw [if_neg h2]
      rw [show m % 2 = 1 by omega, Nat.pow_succ] at h
      by_cases h3 : (i + 1) % 2 = 0
      · have := zdq_pos f (m / 2) ((i + 1) / 2 - 1) (by omega)
        rw [show (i + 1) / 2 - 1 + 1 = (i + 1) / 2 by omega] at this
        omega
      · omega
theorem zdq_down : ∀ f m i, i + 1 < 2 ^ zpq f m → (zdq f m (i + 1) - 1) &&& m = zdq f m i
  | 0, m, i, h => by rw [zpq] at h; omega
  | f + 1, m, i, h => by
    have hp := zdq_pos (f + 1) m i h
    rw [zpq] at h
    rw [zdq, zdq] at *
    by_cases h2 : m % 2 = 0
    · rw [if_pos h2] at hp
      rw [if_pos h2, if_pos h2]
      rw [h2, Nat.add_zero] at h
      have ih := zdq_down f (m / 2) i h
      have := zand2 (a := zdq f (m / 2) (i + 1) - 1) (b := m / 2) (x := 1) (y := 0) (by omega) (by omega)
      rw [ih, show 2 * (m / 2) + 0 = m by omega, show 2 * (zdq f (m / 2) (i + 1) - 1) + 1 = 2 * zdq f (m / 2) (i + 1) - 1 by omega] at this
      exact this
    · rw [if_neg h2] at hp
      rw [if_neg h2, if_neg h2]
      rw [show m % 2 = 1 by omega, Nat.pow_succ] at h
      by_cases h3 : (i + 1) % 2 = 0
      · have ih := zdq_down f (m / 2) (i / 2) (by omega)
        have hq := zdq_pos f (m / 2) (i / 2) (by omega)
        have := zand2 (a := zdq f (m / 2) (i / 2 + 1) - 1) (b := m / 2) (x := 1) (y := 1) (by omega) (by omega)
        rw [ih, show 2 * (m / 2) + 1 = m by omega] at this
        rw [show (i + 1) / 2 = i / 2 + 1 by omega, h3, show i % 2 = 1 by omega, show 2 * zdq f (m / 2) (i / 2 + 1) + 0 - 1 = 2 * (zdq f (m / 2) (i / 2 + 1) - 1) + 1 by omega, this]
        rfl
      · have := zand2 (a := zdq f (m / 2) (i / 2)) (b := m / 2) (x := 0) (y := 1) (by omega) (by omega)
        rw [zdq_sub f (m / 2) (i / 2), show 2 * (m / 2) + 1 = m by omega] at this
        rw [show (i + 1) / 2 = i / 2 by omega, show (i + 1) % 2 = 1 by omega, show i % 2 = 0 by omega]
        exact this
theorem zdq_0 : ∀ f m, zdq f m 0 = 0
  | 0, _ => rfl
  | f + 1, m => by
    rw [zdq, Nat.zero_div, zdq_0 f (m / 2)]
    by_cases h : m % 2 = 0
    · rw [if_pos h]
    · rw [if_neg h]
theorem zdq_top : ∀ f m, m < 2 ^ f → zdq f m (2 ^ zpq f m - 1) = m
  | 0, m, h => by rw [zdq]; omega
  | f + 1, m, h => by
    rw [Nat.pow_succ] at h
    have ih := zdq_top f (m / 2) (by omega)
    have hp := Nat.two_pow_pos (zpq f (m / 2))
    rw [zdq, zpq]
    by_cases h2 : m % 2 = 0
    · rw [if_pos h2, h2, Nat.add_zero, ih]; omega
    · rw [if_neg h2, show m % 2 = 1 by omega, Nat.pow_succ, show (2 ^ zpq f (m / 2) * 2 - 1) / 2 = 2 ^ zpq f (m / 2) - 1 by omega, ih]; omega
theorem zq_not (e : Nat) : ∀ f m d, m < 2 ^ f → d &&& m = d → (2 ^ (f + e) + d - m - 1) &&& m = d
  | 0, m, d, h, h2 => by
    have : m = 0 := by omega
    subst this
    rw [Nat.and_zero] at h2 ⊢
    exact h2
  | f + 1, m, d, h, h2 => by
    rw [Nat.pow_succ] at h
    have hq := zand2 (a := d / 2) (b := m / 2) (x := d % 2) (y := m % 2) (by omega) (by omega)
    rw [show 2 * (d / 2) + d % 2 = d by omega, show 2 * (m / 2) + m % 2 = m by omega, h2] at hq
    have hle : d % 2 &&& m % 2 < 2 := Nat.lt_of_le_of_lt Nat.and_le_left (by omega)
    have ih := zq_not e f (m / 2) (d / 2) (by omega) (by omega)
    have hpw : 2 ^ (f + 1 + e) = 2 * 2 ^ (f + e) := by rw [show f + 1 + e = (f + e) + 1 by omega, Nat.pow_succ, Nat.mul_comm]
    have hbig : 2 ^ f ≤ 2 ^ (f + e) := Nat.pow_le_pow_right (by omega) (by omega)
    have hdm : d % 2 = (d % 2 &&& m % 2) := by omega
    rw [hpw]
    rcases (show m % 2 = 0 ∨ m % 2 = 1 by omega) with b0 | b1
    · have c0 : d % 2 = 0 := by rw [b0, Nat.and_zero] at hdm; exact hdm
      have := zand2 (a := 2 ^ (f + e) + d / 2 - m / 2 - 1) (b := m / 2) (x := 1) (y := 0) (by omega) (by omega)
      rw [ih, show 2 * (m / 2) + 0 = m by omega, show 2 * (2 ^ (f + e) + d / 2 - m / 2 - 1) + 1 = 2 * 2 ^ (f + e) + d - m - 1 by omega] at this
      rw [this]
      show 2 * (d / 2) + 0 = d
      omega
    · have := zand2 (a := 2 ^ (f + e) + d / 2 - m / 2 - 1) (b := m / 2) (x := d % 2) (y := 1) (by omega) (by omega)
      rw [ih, show 2 * (m / 2) + 1 = m by omega, show 2 * (2 ^ (f + e) + d / 2 - m / 2 - 1) + d % 2 = 2 * 2 ^ (f + e) + d - m - 1 by omega, Nat.and_one_is_mod, Nat.mod_mod] at this
      rw [this]
      omega
theorem zdq_up (e : Nat) : ∀ f m i, m < 2 ^ f → i + 1 < 2 ^ zpq f m → (2 ^ (f + e) + zdq f m i - m) &&& m = zdq f m (i + 1)
  | 0, m, i, h, h2 => by rw [zpq] at h2; omega
  | f + 1, m, i, h, h2 => by
    rw [Nat.pow_succ] at h
    have hpw : 2 ^ (f + 1 + e) = 2 * 2 ^ (f + e) := by rw [show f + 1 + e = (f + e) + 1 by omega, Nat.pow_succ, Nat.mul_comm]
    have hbig : 2 ^ f ≤ 2 ^ (f + e) := Nat.pow_le_pow_right (by omega) (by omega)
    rw [zpq] at h2
    rw [zdq, zdq, hpw]
    by_cases h3 : m % 2 = 0
    · rw [if_pos h3, if_pos h3]
      rw [h3, Nat.add_zero] at h2
      have ih := zdq_up e f (m / 2) i (by omega) h2
      have := zand2 (a := 2 ^ (f + e) + zdq f (m / 2) i - m / 2) (b := m / 2) (x := 0) (y := 0) (by omega) (by omega)
      rw [ih, show 2 * (m / 2) + 0 = m by omega, show 2 * (2 ^ (f + e) + zdq f (m / 2) i - m / 2) + 0 = 2 * 2 ^ (f + e) + 2 * zdq f (m / 2) i - m by omega] at this
      exact this
    · rw [if_neg h3, if_neg h3]
      rw [show m % 2 = 1 by omega, Nat.pow_succ] at h2
      by_cases h4 : i % 2 = 0
      · have hn := zq_not e f (m / 2) (zdq f (m / 2) (i / 2)) (by omega) (zdq_sub _ _ _)
        have := zand2 (a := 2 ^ (f + e) + zdq f (m / 2) (i / 2) - m / 2 - 1) (b := m / 2) (x := 1) (y := 1) (by omega) (by omega)
        rw [hn, show 2 * (m / 2) + 1 = m by omega, show 2 * (2 ^ (f + e) + zdq f (m / 2) (i / 2) - m / 2 - 1) + 1 = 2 * 2 ^ (f + e) + (2 * zdq f (m / 2) (i / 2) + i % 2) - m by omega] at this
        rw [this, show (i + 1) / 2 = i / 2 by omega, show (i + 1) % 2 = 1 by omega]; rfl
      · have ih := zdq_up e f (m / 2) (i / 2) (by omega) (by omega)
        have := zand2 (a := 2 ^ (f + e) + zdq f (m / 2) (i / 2) - m / 2) (b := m / 2) (x := 0) (y := 1) (by omega) (by omega)
        rw [ih, show 2 * (m / 2) + 1 = m by omega, show 2 * (2 ^ (f + e) + zdq f (m / 2) (i / 2) - m / 2) + 0 = 2 * 2 ^ (f + e) + (2 * zdq f (m / 2) (i / 2) + i % 2) - m by omega] at this
        rw [this, show (i + 1) / 2 = i / 2 + 1 by omega, show (i + 1) % 2 = 0 by omega]; rfl
theorem zpq_pc : ∀ f m, zpq f m = ((List.range f).filter fun i => m.testBit i).length
  | 0, m => rfl
  | f + 1, m => by
    rw [zpq, zpq_pc f (m / 2), List.range_succ_eq_map, List.filter_cons, List.filter_map, Nat.testBit_zero]
    have e : (fun i => (m / 2).testBit i) = ((fun i => m.testBit i) ∘ Nat.succ) := by
      funext i
      show _ = m.testBit (i + 1)
      rw [Nat.testBit_succ]
    rw [e]
    by_cases h : m % 2 = 1
    · simp [h]
    · have h0 : m % 2 = 0 := by omega
      simp [h0]
theorem zpq_zpc (m : Nat) : zpq 16 m = zpc m := zpq_pc 16 m
/-- sums over the numbers below, of those that count -/
def zsum (p : Nat → Bool) (g : Nat → Nat) : Nat → Nat
  | 0 => 0
  | n + 1 => zsum p g n + (if p n then g n else 0)
theorem zsum_le {p : Nat → Bool} {g : Nat → Nat} (h : ∀ i, g i ≤ 1) : ∀ n, zsum p g n ≤ n
  | 0 => Nat.le_refl _
  | n + 1 => by
    rw [zsum]
    have := zsum_le (p := p) h n
    have := h n
    split <;> omega
theorem zsum_mono {p : Nat → Bool} {g : Nat → Nat} {m : Nat} : ∀ n, m ≤ n → zsum p g m ≤ zsum p g n
  | 0, h => by
    have : m = 0 := by omega
    rw [this]; exact Nat.le_refl _
  | n + 1, h => by
    by_cases e : m = n + 1
    · rw [e]; exact Nat.le_refl _
    · have h1 := zsum_mono (p := p) (g := g) (m := m) n (by omega)
      show _ ≤ zsum p g n + (if p n then g n else 0)
      omega
