/-! counting bits; doubt -/
def zF1 (m : Nat) : Nat := m - (m / 2 &&& 1431655765)
def zF2 (m : Nat) : Nat := (m &&& 858993459) + (m / 4 &&& 858993459)
def zF3 (m : Nat) : Nat := m + m / 16 &&& 252645135
def zF4 (m : Nat) : Nat := m + m / 256
def zF5 (m : Nat) : Nat := m + m / 65536 &&& 63
def zF (m : Nat) : Nat := zF5 (zF4 (zF3 (zF2 (zF1 m))))
def zp8 (m : Nat) : Nat := ((List.range 8).filter fun i => m.testBit i).length
theorem zF_two_0 : ∀ b, b < 16 → ∀ a, a < 256 → (zF (256 * (0 + b) + a) == zF (0 + b) + zF a) = true := by decide +kernel
theorem zF_two_1 : ∀ b, b < 16 → ∀ a, a < 256 → (zF (256 * (16 + b) + a) == zF (16 + b) + zF a) = true := by decide +kernel
theorem zF_two_2 : ∀ b, b < 16 → ∀ a, a < 256 → (zF (256 * (32 + b) + a) == zF (32 + b) + zF a) = true := by decide +kernel
theorem zF_two_3 : ∀ b, b < 16 → ∀ a, a < 256 → (zF (256 * (48 + b) + a) == zF (48 + b) + zF a) = true := by decide +kernel
theorem zF_two_4 : ∀ b, b < 16 → ∀ a, a < 256 → (zF (256 * (64 + b) + a) == zF (64 + b) + zF a) = true := by decide +kernel
theorem zF_two_5 : ∀ b, b < 16 → ∀ a, a < 256 → (zF (256 * (80 + b) + a) == zF (80 + b) + zF a) = true := by decide +kernel
theorem zF_two_6 : ∀ b, b < 16 → ∀ a, a < 256 → (zF (256 * (96 + b) + a) == zF (96 + b) + zF a) = true := by decide +kernel
theorem zF_two_7 : ∀ b, b < 16 → ∀ a, a < 256 → (zF (256 * (112 + b) + a) == zF (112 + b) + zF a) = true := by decide +kernel
theorem zF_two_8 : ∀ b, b < 16 → ∀ a, a < 256 → (zF (256 * (128 + b) + a) == zF (128 + b) + zF a) = true := by decide +kernel
theorem zF_two_9 : ∀ b, b < 16 → ∀ a, a < 256 → (zF (256 * (144 + b) + a) == zF (144 + b) + zF a) = true := by decide +kernel
theorem zF_two_10 : ∀ b, b < 16 → ∀ a, a < 256 → (zF (256 * (160 + b) + a) == zF (160 + b) + zF a) = true := by decide +kernel
theorem zF_two_11 : ∀ b, b < 16 → ∀ a, a < 256 → (zF (256 * (176 + b) + a) == zF (176 + b) + zF a) = true := by decide +kernel
theorem zF_two_12 : ∀ b, b < 16 → ∀ a, a < 256 → (zF (256 * (192 + b) + a) == zF (192 + b) + zF a) = true := by decide +kernel
theorem zF_two_13 : ∀ b, b < 16 → ∀ a, a < 256 → (zF (256 * (208 + b) + a) == zF (208 + b) + zF a) = true := by decide +kernel
theorem zF_two_14 : ∀ b, b < 16 → ∀ a, a < 256 → (zF (256 * (224 + b) + a) == zF (224 + b) + zF a) = true := by decide +kernel
theorem zF_two_15 : ∀ b, b < 16 → ∀ a, a < 256 → (zF (256 * (240 + b) + a) == zF (240 + b) + zF a) = true := by decide +kernel
theorem zF_two : ∀ b, b < 256 → ∀ a, a < 256 → (zF (256 * b + a) == zF b + zF a) = true := by
  intro b hb a ha
  have hm : b % 16 < 16 := by omega
  have hd : b / 16 < 16 := by omega
  have e : b = 16 * (b / 16) + b % 16 := by omega
  generalize b / 16 = q at hd e
  generalize b % 16 = r at hm e
  subst e
  match q, hd with
  | 0, _ => exact zF_two_0 r hm a ha
  | 1, _ => exact zF_two_1 r hm a ha
  | 2, _ => exact zF_two_2 r hm a ha
  | 3, _ => exact zF_two_3 r hm a ha
  | 4, _ => exact zF_two_4 r hm a ha
  | 5, _ => exact zF_two_5 r hm a ha
  | 6, _ => exact zF_two_6 r hm a ha
  | 7, _ => exact zF_two_7 r hm a ha
  | 8, _ => exact zF_two_8 r hm a ha
  | 9, _ => exact zF_two_9 r hm a ha
  | 10, _ => exact zF_two_10 r hm a ha
  | 11, _ => exact zF_two_11 r hm a ha
  | 12, _ => exact zF_two_12 r hm a ha
  | 13, _ => exact zF_two_13 r hm a ha
  | 14, _ => exact zF_two_14 r hm a ha
  | 15, _ => exact zF_two_15 r hm a ha
  | q + 16, h => omega
theorem zF_8 : ∀ b, b < 256 → (zF b == zp8 b) = true := by decide +kernel
theorem zF_dn_0 : ∀ b, b < 16 → ∀ a, a < 256 → (256 * (0 + b) + a == 0 || (zF (256 * (0 + b) + a &&& (256 * (0 + b) + a - 1)) + 1 == zF (256 * (0 + b) + a))) = true := by decide +kernel
theorem zF_dn_1 : ∀ b, b < 16 → ∀ a, a < 256 → (256 * (16 + b) + a == 0 || (zF (256 * (16 + b) + a &&& (256 * (16 + b) + a - 1)) + 1 == zF (256 * (16 + b) + a))) = true := by decide +kernel
theorem zF_dn_2 : ∀ b, b < 16 → ∀ a, a < 256 → (256 * (32 + b) + a == 0 || (zF (256 * (32 + b) + a &&& (256 * (32 + b) + a - 1)) + 1 == zF (256 * (32 + b) + a))) = true := by decide +kernel
theorem zF_dn_3 : ∀ b, b < 16 → ∀ a, a < 256 → (256 * (48 + b) + a == 0 || (zF (256 * (48 + b) + a &&& (256 * (48 + b) + a - 1)) + 1 == zF (256 * (48 + b) + a))) = true := by decide +kernel
theorem zF_dn_4 : ∀ b, b < 16 → ∀ a, a < 256 → (256 * (64 + b) + a == 0 || (zF (256 * (64 + b) + a &&& (256 * (64 + b) + a - 1)) + 1 == zF (256 * (64 + b) + a))) = true := by decide +kernel
theorem zF_dn_5 : ∀ b, b < 16 → ∀ a, a < 256 → (256 * (80 + b) + a == 0 || (zF (256 * (80 + b) + a &&& (256 * (80 + b) + a - 1)) + 1 == zF (256 * (80 + b) + a))) = true := by decide +kernel
theorem zF_dn_6 : ∀ b, b < 16 → ∀ a, a < 256 → (256 * (96 + b) + a == 0 || (zF (256 * (96 + b) + a &&& (256 * (96 + b) + a - 1)) + 1 == zF (256 * (96 + b) + a))) = true := by decide +kernel
theorem zF_dn_7 : ∀ b, b < 16 → ∀ a, a < 256 → (256 * (112 + b) + a == 0 || (zF (256 * (112 + b) + a &&& (256 * (112 + b) + a - 1)) + 1 == zF (256 * (112 + b) + a))) = true := by decide +kernel
theorem zF_dn_8 : ∀ b, b < 16 → ∀ a, a < 256 → (256 * (128 + b) + a == 0 || (zF (256 * (128 + b) + a &&& (256 * (128 + b) + a - 1)) + 1 == zF (256 * (128 + b) + a))) = true := by decide +kernel
theorem zF_dn_9 : ∀ b, b < 16 → ∀ a, a < 256 → (256 * (144 + b) + a == 0 || (zF (256 * (144 + b) + a &&& (256 * (144 + b) + a - 1)) + 1 == zF (256 * (144 + b) + a))) = true := by decide +kernel
theorem zF_dn_10 : ∀ b, b < 16 → ∀ a, a < 256 → (256 * (160 + b) + a == 0 || (zF (256 * (160 + b) + a &&& (256 * (160 + b) + a - 1)) + 1 == zF (256 * (160 + b) + a))) = true := by decide +kernel
theorem zF_dn_11 : ∀ b, b < 16 → ∀ a, a < 256 → (256 * (176 + b) + a == 0 || (zF (256 * (176 + b) + a &&& (256 * (176 + b) + a - 1)) + 1 == zF (256 * (176 + b) + a))) = true := by decide +kernel
theorem zF_dn_12 : ∀ b, b < 16 → ∀ a, a < 256 → (256 * (192 + b) + a == 0 || (zF (256 * (192 + b) + a &&& (256 * (192 + b) + a - 1)) + 1 == zF (256 * (192 + b) + a))) = true := by decide +kernel
theorem zF_dn_13 : ∀ b, b < 16 → ∀ a, a < 256 → (256 * (208 + b) + a == 0 || (zF (256 * (208 + b) + a &&& (256 * (208 + b) + a - 1)) + 1 == zF (256 * (208 + b) + a))) = true := by decide +kernel
theorem zF_dn_14 : ∀ b, b < 16 → ∀ a, a < 256 → (256 * (224 + b) + a == 0 || (zF (256 * (224 + b) + a &&& (256 * (224 + b) + a - 1)) + 1 == zF (256 * (224 + b) + a))) = true := by decide +kernel
theorem zF_dn_15 : ∀ b, b < 16 → ∀ a, a < 256 → (256 * (240 + b) + a == 0 || (zF (256 * (240 + b) + a &&& (256 * (240 + b) + a - 1)) + 1 == zF (256 * (240 + b) + a))) = true := by decide +kernel
theorem zF_dn : ∀ b, b < 256 → ∀ a, a < 256 → (256 * b + a == 0 || (zF (256 * b + a &&& (256 * b + a - 1)) + 1 == zF (256 * b + a))) = true := by
  intro b hb a ha
  have hm : b % 16 < 16 := by omega
  have hd : b / 16 < 16 := by omega
  have e : b = 16 * (b / 16) + b % 16 := by omega
  generalize b / 16 = q at hd e
  generalize b % 16 = r at hm e
  subst e
  match q, hd with
  | 0, _ => exact zF_dn_0 r hm a ha
  | 1, _ => exact zF_dn_1 r hm a ha
  | 2, _ => exact zF_dn_2 r hm a ha
  | 3, _ => exact zF_dn_3 r hm a ha
  | 4, _ => exact zF_dn_4 r hm a ha
  | 5, _ => exact zF_dn_5 r hm a ha
  | 6, _ => exact zF_dn_6 r hm a ha
  | 7, _ => exact zF_dn_7 r hm a ha
  | 8, _ => exact zF_dn_8 r hm a ha
  | 9, _ => exact zF_dn_9 r hm a ha
  | 10, _ => exact zF_dn_10 r hm a ha
  | 11, _ => exact zF_dn_11 r hm a ha
  | 12, _ => exact zF_dn_12 r hm a ha
  | 13, _ => exact zF_dn_13 r hm a ha
  | 14, _ => exact zF_dn_14 r hm a ha
  | 15, _ => exact zF_dn_15 r hm a ha
  | q + 16, h => omega
