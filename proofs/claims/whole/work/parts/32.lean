/-! submasks, by their number: zdq m i is the i-th submask of m -/
def zdq : Nat → Nat → Nat → Nat
  | 0, _, _ => 0
  | f + 1, m, i => if m % 2 = 0 then 2 * zdq f (m / 2) i else 2 * zdq f (m / 2) (i / 2) + i % 2
/-- how many bits the f lowest of m have -/
def zpq : Nat → Nat → Nat
  | 0, _ => 0
  | f + 1, m => zpq f (m / 2) + m % 2
theorem zand2 {a b x y : Nat} (hx : x < 2) (hy : y < 2) : (2 * a + x) &&& (2 * b + y) = 2 * (a &&& b) + (x &&& y) := by
  apply Nat.eq_of_testBit_eq
  intro i
  have hxy : x &&& y < 2 := Nat.lt_of_le_of_lt Nat.and_le_left hx
  match i with
  | 0 =>
    rw [Nat.testBit_and, Nat.testBit_zero, Nat.testBit_zero, Nat.testBit_zero]
    rcases (show x = 0 ∨ x = 1 by omega) with rfl | rfl <;> rcases (show y = 0 ∨ y = 1 by omega) with rfl | rfl <;> simp <;> omega
  | i + 1 =>
    rw [Nat.testBit_and, Nat.testBit_succ, Nat.testBit_succ, Nat.testBit_succ, show (2 * a + x) / 2 = a by omega, show (2 * b + y) / 2 = b by omega, show (2 * (a &&& b) + (x &&& y)) / 2 = a &&& b by omega, Nat.testBit_and]
theorem zdq_sub : ∀ f m i, zdq f m i &&& m = zdq f m i
  | 0, m, i => by rw [zdq]; exact Nat.zero_and m
  | f + 1, m, i => by
    rw [zdq]
    by_cases h : m % 2 = 0
    · rw [if_pos h]
      have := zand2 (a := zdq f (m / 2) i) (b := m / 2) (x := 0) (y := 0) (by omega) (by omega)
      rw [zdq_sub f (m / 2) i, show 2 * (m / 2) + 0 = m by omega] at this
      exact this
    · rw [if_neg h]
      have := zand2 (a := zdq f (m / 2) (i / 2)) (b := m / 2) (x := i % 2) (y := 1) (by omega) (by omega)
      rw [zdq_sub f (m / 2) (i / 2), show 2 * (m / 2) + 1 = m by omega, Nat.and_one_is_mod, Nat.mod_mod] at this
      exact this
theorem zdq_pos : ∀ f m i, i + 1 < 2 ^ zpq f m → 0 < zdq f m (i + 1)
  | 0, m, i, h => by rw [zpq] at h; omega
  | f + 1, m, i, h => by
    rw [zpq] at h
    rw [zdq]
    by_cases h2 : m % 2 = 0
    · rw [if_pos h2]
      rw [h2, Nat.add_zero] at h
      have := zdq_pos f (m / 2) i h
      omega
    · rw [if_neg h2]
      rw [show m % 2 = 1 by omega, Nat.pow_succ] at h
      by_cases h3 : (i + 1) % 2 = 0
      · have := zdq_pos f (m / 2) ((i + 1) / 2 - 1) (by omega)
        rw [show (i + 1) / 2 - 1 + 1 = (i + 1) / 2 by omega] at this
        omega
      · omega
theorem zdq_down : ∀ f m i, i + 1 < 2 ^ zpq f m → (zdq f m (i + 1) - 1) &&& m = zdq f m i
  | 0, m, i, h => by rw [zpq] at h; omega
  | f + 1, m, i, h => by
    have hp := zdq_pos (f + 1) m i h
    rw [zpq] at h
    rw [zdq, zdq] at *
    by_cases h2 : m % 2 = 0
    · rw [if_pos h2] at hp
      rw [if_pos h2, if_pos h2]
      rw [h2, Nat.add_zero] at h
      have ih := zdq_down f (m / 2) i h
      have := zand2 (a := zdq f (m / 2) (i + 1) - 1) (b := m / 2) (x := 1) (y := 0) (by omega) (by omega)
      rw [ih, show 2 * (m / 2) + 0 = m by omega, show 2 * (zdq f (m / 2) (i + 1) - 1) + 1 = 2 * zdq f (m / 2) (i + 1) - 1 by omega] at this
      exact this
    · rw [if_neg h2] at hp
      rw [if_neg h2, if_neg h2]
      rw [show m % 2 = 1 by omega, Nat.pow_succ] at h
      by_cases h3 : (i + 1) % 2 = 0
      · have ih := zdq_down f (m / 2) (i / 2) (by omega)
        have hq := zdq_pos f (m / 2) (i / 2) (by omega)
        have := zand2 (a := zdq f (m / 2) (i / 2 + 1) - 1) (b := m / 2) (x := 1) (y := 1) (by omega) (by omega)
        rw [ih, show 2 * (m / 2) + 1 = m by omega] at this
        rw [show (i + 1) / 2 = i / 2 + 1 by omega, h3, show i % 2 = 1 by omega, show 2 * zdq f (m / 2) (i / 2 + 1) + 0 - 1 = 2 * (zdq f (m / 2) (i / 2 + 1) - 1) + 1 by omega, this]
        rfl
      · have := zand2 (a := zdq f (m / 2) (i / 2)) (b := m / 2) (x := 0) (y := 1) (by omega) (by omega)
        rw [zdq_sub f (m / 2) (i / 2), show 2 * (m / 2) + 1 = m by omega] at this
        rw [show (i + 1) / 2 = i / 2 by omega, show (i + 1) % 2 = 1 by omega, show i % 2 = 0 by omega]
        exact this
