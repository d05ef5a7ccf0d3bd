/-! counting bits; doubt -/
def zF1 (m : Nat) : Nat := m - (m / 2 &&& 1431655765)
def zF2 (m : Nat) : Nat := (m &&& 858993459) + (m / 4 &&& 858993459)
def zF3 (m : Nat) : Nat := m + m / 16 &&& 252645135
def zF4 (m : Nat) : Nat := m + m / 256
def zF5 (m : Nat) : Nat := m + m / 65536 &&& 63
def zF (m : Nat) : Nat := zF5 (zF4 (zF3 (zF2 (zF1 m))))
theorem zF_two : ∀ b, b < 256 → ∀ a, a < 256 → (zF (256 * b + a) == zF b + zF a) = true := by decide +kernel
def zp8 (m : Nat) : Nat := ((List.range 8).filter fun i => m.testBit i).length
theorem zF_8 : ∀ b, b < 256 → (zF b == zp8 b) = true := by decide +kernel
theorem zF_dn : ∀ b, b < 256 → ∀ a, a < 256 → (256 * b + a == 0 || (zF (256 * b + a &&& (256 * b + a - 1)) + 1 == zF (256 * b + a))) = true := by decide +kernel
