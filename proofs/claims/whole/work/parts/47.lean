/-! counting bits of all 32; labels that say which things are one -/
theorem zandp (i : Nat) {a b x y : Nat} (hx : x < 2 ^ i) (hy : y < 2 ^ i) : (2 ^ i * a + x) &&& (2 ^ i * b + y) = 2 ^ i * (a &&& b) + (x &&& y) := by
  apply Nat.eq_of_testBit_eq
  intro j
  have hxy : x &&& y < 2 ^ i := Nat.lt_of_le_of_lt Nat.and_le_left hx
  rw [Nat.testBit_and, Nat.testBit_two_pow_mul_add a hx, Nat.testBit_two_pow_mul_add b hy, Nat.testBit_two_pow_mul_add (a &&& b) hxy]
  by_cases h : j < i
  · rw [if_pos h, if_pos h, if_pos h, Nat.testBit_and]
  · rw [if_neg h, if_neg h, if_neg h, Nat.testBit_and]
theorem zand_lo (i : Nat) {a x y : Nat} (hx : x < 2 ^ i) (hy : y < 2 ^ i) : (2 ^ i * a + x) &&& y = x &&& y := by
  have := zandp i (a := a) (b := 0) hx hy
  rw [Nat.mul_zero, Nat.zero_add, Nat.and_zero, Nat.mul_zero, Nat.zero_add] at this
  exact this
theorem zand_hi (i : Nat) {b x y : Nat} (hx : x < 2 ^ i) (hy : y < 2 ^ i) : x &&& (2 ^ i * b + y) = x &&& y := by
  rw [Nat.and_comm, zand_lo i hy hx, Nat.and_comm]
theorem zF1_w {h l : Nat} (hh : h < 65536) (hl : l < 65536) : zF1 (65536 * h + l) = 65536 * zF1 h + zF1 l := by
  unfold zF1
  have e1 := zandp 16 (a := h / 2) (b := 21845) (x := 32768 * (h % 2) + l / 2) (y := 21845) (by omega) (by omega)
  have e2 := zand_lo 15 (a := h % 2) (x := l / 2) (y := 21845) (by omega) (by omega)
  have e3 := zand_hi 16 (b := 21845) (x := h / 2) (y := 21845) (by omega) (by omega)
  have e4 := zand_hi 16 (b := 21845) (x := l / 2) (y := 21845) (by omega) (by omega)
  rw [show 2 ^ 16 * (h / 2) + (32768 * (h % 2) + l / 2) = (65536 * h + l) / 2 by omega, show 2 ^ 16 * 21845 + 21845 = 1431655765 from rfl, show 32768 * (h % 2) + l / 2 = 2 ^ 15 * (h % 2) + l / 2 by omega, e2] at e1
  rw [show 2 ^ 16 * 21845 + 21845 = 1431655765 from rfl] at e3 e4
  have l1 : h / 2 &&& 21845 ≤ h / 2 := Nat.and_le_left
  have l2 : l / 2 &&& 21845 ≤ l / 2 := Nat.and_le_left
  rw [e1, e3, e4]
  omega
theorem zF2_w {h l : Nat} (hh : h < 65536) (hl : l < 65536) : zF2 (65536 * h + l) = 65536 * zF2 h + zF2 l := by
  unfold zF2
  have e1 := zandp 16 (a := h) (b := 13107) (x := l) (y := 13107) (by omega) (by omega)
  have e2 := zandp 16 (a := h / 4) (b := 13107) (x := 16384 * (h % 4) + l / 4) (y := 13107) (by omega) (by omega)
  have e3 := zand_lo 14 (a := h % 4) (x := l / 4) (y := 13107) (by omega) (by omega)
  have e4 := zand_hi 16 (b := 13107) (x := h) (y := 13107) (by omega) (by omega)
  have e5 := zand_hi 16 (b := 13107) (x := h / 4) (y := 13107) (by omega) (by omega)
  have e6 := zand_hi 16 (b := 13107) (x := l) (y := 13107) (by omega) (by omega)
  have e7 := zand_hi 16 (b := 13107) (x := l / 4) (y := 13107) (by omega) (by omega)
  rw [show 2 ^ 16 * (h / 4) + (16384 * (h % 4) + l / 4) = (65536 * h + l) / 4 by omega, show 16384 * (h % 4) + l / 4 = 2 ^ 14 * (h % 4) + l / 4 by omega, e3] at e2
  rw [show 2 ^ 16 * 13107 + 13107 = 858993459 from rfl] at e1 e2 e4 e5 e6 e7
  rw [show 2 ^ 16 * h + l = 65536 * h + l from rfl] at e1
  rw [e1, e2, e4, e5, e6, e7]
  omega
theorem zF2_b {x : Nat} (hx : x < 65536) : zF2 x ≤ 26214 ∧ zF2 x % 16 ≤ 6 := by
  unfold zF2
  have e6 := zand_hi 16 (b := 13107) (x := x) (y := 13107) (by omega) (by omega)
  have e7 := zand_hi 16 (b := 13107) (x := x / 4) (y := 13107) (by omega) (by omega)
  rw [show 2 ^ 16 * 13107 + 13107 = 858993459 from rfl] at e6 e7
  have l1 : x &&& 13107 ≤ 13107 := Nat.and_le_right
  have l2 : x / 4 &&& 13107 ≤ 13107 := Nat.and_le_right
  have m1 : (x &&& 13107) % 16 ≤ 3 := by
    have := zandp 4 (a := x / 16) (b := 819) (x := x % 16) (y := 3) (by omega) (by omega)
    rw [show 2 ^ 4 * (x / 16) + x % 16 = x by omega, show 2 ^ 4 * 819 + 3 = 13107 from rfl] at this
    have l3 : x % 16 &&& 3 ≤ 3 := Nat.and_le_right
    omega
  have m2 : (x / 4 &&& 13107) % 16 ≤ 3 := by
    have := zandp 4 (a := x / 4 / 16) (b := 819) (x := x / 4 % 16) (y := 3) (by omega) (by omega)
    rw [show 2 ^ 4 * (x / 4 / 16) + x / 4 % 16 = x / 4 by omega, show 2 ^ 4 * 819 + 3 = 13107 from rfl] at this
    have l3 : x / 4 % 16 &&& 3 ≤ 3 := Nat.and_le_right
    omega
  rw [e6, e7]
  omega
theorem zF3_b {x : Nat} (hx : x ≤ 26214) : zF3 x = (x + x / 16 &&& 3855) ∧ zF3 x ≤ 3855 ∧ zF3 x % 256 ≤ 15 := by
  unfold zF3
  have e := zand_hi 16 (b := 3855) (x := x + x / 16) (y := 3855) (by omega) (by omega)
  rw [show 2 ^ 16 * 3855 + 3855 = 252645135 from rfl] at e
  have l1 : x + x / 16 &&& 3855 ≤ 3855 := Nat.and_le_right
  have m1 : (x + x / 16 &&& 3855) % 256 ≤ 15 := by
    have := zandp 8 (a := (x + x / 16) / 256) (b := 15) (x := (x + x / 16) % 256) (y := 15) (by omega) (by omega)
    rw [show 2 ^ 8 * ((x + x / 16) / 256) + (x + x / 16) % 256 = x + x / 16 by omega, show 2 ^ 8 * 15 + 15 = 3855 from rfl] at this
    have l3 : (x + x / 16) % 256 &&& 15 ≤ 15 := Nat.and_le_right
    omega
  rw [e]
  exact ⟨rfl, l1, m1⟩
theorem zF3_w {h l : Nat} (hh : h ≤ 26214) (hl : l ≤ 26214) (h6 : h % 16 ≤ 6) : zF3 (65536 * h + l) = 65536 * zF3 h + zF3 l := by
  rw [(zF3_b hh).1, (zF3_b hl).1]
  unfold zF3
  have e1 := zandp 16 (a := h + h / 16) (b := 3855) (x := l + l / 16 + 4096 * (h % 16)) (y := 3855) (by omega) (by omega)
  have e2 := zand_lo 12 (a := (l + l / 16) / 4096 + h % 16) (x := (l + l / 16) % 4096) (y := 3855) (by omega) (by omega)
  have e3 := zand_lo 12 (a := (l + l / 16) / 4096) (x := (l + l / 16) % 4096) (y := 3855) (by omega) (by omega)
  rw [show 2 ^ 12 * ((l + l / 16) / 4096 + h % 16) + (l + l / 16) % 4096 = l + l / 16 + 4096 * (h % 16) by omega] at e2
  rw [show 2 ^ 12 * ((l + l / 16) / 4096) + (l + l / 16) % 4096 = l + l / 16 by omega] at e3
  rw [show 2 ^ 16 * (h + h / 16) + (l + l / 16 + 4096 * (h % 16)) = 65536 * h + l + (65536 * h + l) / 16 by omega, show 2 ^ 16 * 3855 + 3855 = 252645135 from rfl, e2, ← e3] at e1
  exact e1
theorem zand63 (x : Nat) : x &&& 63 = x % 64 := Nat.and_two_pow_sub_one_eq_mod x 6
theorem zF_32 {h l : Nat} (hh : h < 65536) (hl : l < 65536) : zF (65536 * h + l) = zF h + zF l := by
  have b1 : zF1 h < 65536 := Nat.lt_of_le_of_lt (Nat.sub_le _ _) hh
  have b2 : zF1 l < 65536 := Nat.lt_of_le_of_lt (Nat.sub_le _ _) hl
  obtain ⟨c1, c2⟩ := zF2_b b1
  obtain ⟨c3, c4⟩ := zF2_b b2
  obtain ⟨_, d1, d2⟩ := zF3_b c1
  obtain ⟨_, d3, d4⟩ := zF3_b c3
  unfold zF
  rw [zF1_w hh hl, zF2_w b1 b2, zF3_w c1 c3 c2]
  generalize zF3 (zF2 (zF1 h)) = x at d1 d2
  generalize zF3 (zF2 (zF1 l)) = y at d3 d4
  obtain ⟨x1, x0, hx⟩ : ∃ x1 x0, x = 256 * x1 + x0 ∧ x1 ≤ 15 ∧ x0 ≤ 15 := ⟨x / 256, x % 256, by omega, by omega, by omega⟩
  obtain ⟨y1, y0, hy⟩ : ∃ y1 y0, y = 256 * y1 + y0 ∧ y1 ≤ 15 ∧ y0 ≤ 15 := ⟨y / 256, y % 256, by omega, by omega, by omega⟩
  obtain ⟨rfl, hx1, hx0⟩ := hx
  obtain ⟨rfl, hy1, hy0⟩ := hy
  have k1 : (65536 * (256 * x1 + x0) + (256 * y1 + y0)) / 256 = 256 * (256 * x1 + x0) + y1 := by omega
  have k2 : (256 * x1 + x0) / 256 = x1 := by omega
  have k3 : (256 * y1 + y0) / 256 = y1 := by omega
  have k4 : (65536 * (256 * x1 + x0) + (256 * y1 + y0) + (256 * (256 * x1 + x0) + y1)) / 65536 = 256 * x1 + x0 + x1 := by omega
  have k5 : (256 * x1 + x0 + x1) / 65536 = 0 := by omega
  have k6 : (256 * y1 + y0 + y1) / 65536 = 0 := by omega
  unfold zF5 zF4
  rw [zand63, zand63, zand63, k1, k2, k3, k4, k5, k6]
  clear k1 k2 k3 k4 k5 k6
  rw [show 65536 * (256 * x1 + x0) + (256 * y1 + y0) + (256 * (256 * x1 + x0) + y1) + (256 * x1 + x0 + x1) = 64 * (1024 * (256 * x1 + x0) + 4 * y1 + 4 * (256 * x1 + x0) + 4 * x1) + (y0 + y1 + x0 + x1) by omega, show 256 * x1 + x0 + x1 + 0 = 64 * (4 * x1) + (x0 + x1) by omega, show 256 * y1 + y0 + y1 + 0 = 64 * (4 * y1) + (y0 + y1) by omega, Nat.mul_add_mod, Nat.mul_add_mod, Nat.mul_add_mod, Nat.mod_eq_of_lt (by omega), Nat.mod_eq_of_lt (by omega), Nat.mod_eq_of_lt (by omega)]
  omega
theorem zpc_sum (m : Nat) : ∀ n, ((List.range n).filter fun i => m.testBit i).length = zsum (fun q => m.testBit q) (fun _ => 1) n
  | 0 => rfl
  | n + 1 => by
    rw [List.range_succ, List.filter_append, List.length_append, zpc_sum m n, zsum]
    congr 1
    cases e : m.testBit n <;> simp [e]
theorem zsum_cat {P : Nat → Bool} (m : Nat) : ∀ n, zsum P (fun _ => 1) (m + n) = zsum P (fun _ => 1) m + zsum (fun q => P (m + q)) (fun _ => 1) n
  | 0 => rfl
  | n + 1 => by
    rw [show m + (n + 1) = m + n + 1 by omega, zsum, zsum_cat m n, zsum]
    omega
theorem zF_sum {m : Nat} (h : m < 4294967296) : zF m = zsum (fun q => m.testBit q) (fun _ => 1) 32 := by
  have e : m = 65536 * (m / 65536) + m % 65536 := by omega
  have e32 := zF_32 (h := m / 65536) (l := m % 65536) (by omega) (by omega)
  rw [← e] at e32
  rw [e32, zF_pc (by omega), zF_pc (by omega)]
  unfold zpc
  rw [zpc_sum, zpc_sum, show 32 = 16 + 16 from rfl, zsum_cat, Nat.add_comm]
  congr 1
  · apply zsum_cg
    intro q hq
    have := Nat.testBit_two_pow_mul_add (i := 16) (m / 65536) (show m % 65536 < 2 ^ 16 by omega) q
    rw [show 2 ^ 16 * (m / 65536) + m % 65536 = m by omega, if_pos hq] at this
    exact this.symm
  · apply zsum_cg
    intro q hq
    have := Nat.testBit_two_pow_mul_add (i := 16) (m / 65536) (show m % 65536 < 2 ^ 16 by omega) (16 + q)
    rw [show 2 ^ 16 * (m / 65536) + m % 65536 = m by omega, if_neg (by omega), Nat.add_sub_cancel_left] at this
    exact this.symm
theorem c_bits32 (I : zI) {m : Nat} (h : m < 4294967296) : fc_JInteger_bitCount I (nI m) = some (nI (zsum (fun q => m.testBit q) (fun _ => 1) 32)) := by
  rw [← zF_sum h]
  have hs : m = 65536 * (m / 65536) + m % 65536 := by omega
  have b1 : zF1 m < 4294967296 := Nat.lt_of_le_of_lt (Nat.sub_le _ _) h
  have w1 := zF1_w (h := m / 65536) (l := m % 65536) (by omega) (by omega)
  rw [← hs] at w1
  have p1 : zF1 (m / 65536) < 65536 := Nat.lt_of_le_of_lt (Nat.sub_le _ _) (by omega)
  have p2 : zF1 (m % 65536) < 65536 := Nat.lt_of_le_of_lt (Nat.sub_le _ _) (by omega)
  have w2 := zF2_w p1 p2
  rw [← w1] at w2
  obtain ⟨c1, c2⟩ := zF2_b p1
  obtain ⟨c3, c4⟩ := zF2_b p2
  have b2 : zF2 (zF1 m) < 4294967296 := by omega
  have b3 : zF3 (zF2 (zF1 m)) ≤ 252645135 := Nat.and_le_right
  have b4 : zF4 (zF3 (zF2 (zF1 m))) < 4294967296 := by unfold zF4; omega
  unfold fc_JInteger_bitCount
  have e1 : zush (nI m) 1 = nI (m / 2) := zush_n (by omega) 1 (by decide)
  have a1 : nI m - (zush (nI m) 1 &&& 1431655765) = nI (zF1 m) := by
    rw [e1, show (1431655765 : Int32) = nI 1431655765 from rfl, zl_and]
    exact pk_sub (Nat.le_trans Nat.and_le_left (Nat.div_le_self _ _))
  rw [a1]
  have e2 : zush (nI (zF1 m)) 2 = nI (zF1 m / 4) := zush_n (by omega) 2 (by decide)
  have a2 : (nI (zF1 m) &&& 858993459) + (zush (nI (zF1 m)) 2 &&& 858993459) = nI (zF2 (zF1 m)) := by
    rw [e2, show (858993459 : Int32) = nI 858993459 from rfl, zl_and, zl_and, zl_add]; rfl
  rw [a2]
  have e3 : zush (nI (zF2 (zF1 m))) 4 = nI (zF2 (zF1 m) / 16) := zush_n (by omega) 4 (by decide)
  have a3 : nI (zF2 (zF1 m)) + zush (nI (zF2 (zF1 m))) 4 &&& 252645135 = nI (zF3 (zF2 (zF1 m))) := by
    rw [e3, show (252645135 : Int32) = nI 252645135 from rfl, zl_add, zl_and]; rfl
  rw [a3]
  have e4 : zush (nI (zF3 (zF2 (zF1 m)))) 8 = nI (zF3 (zF2 (zF1 m)) / 256) := zush_n (by omega) 8 (by decide)
  have a4 : nI (zF3 (zF2 (zF1 m))) + zush (nI (zF3 (zF2 (zF1 m)))) 8 = nI (zF4 (zF3 (zF2 (zF1 m)))) := by
    rw [e4, zl_add]; rfl
  rw [a4]
  have e5 : zush (nI (zF4 (zF3 (zF2 (zF1 m))))) 16 = nI (zF4 (zF3 (zF2 (zF1 m))) / 65536) := zush_n (by omega) 16 (by decide)
  rw [e5, show (63 : Int32) = nI 63 from rfl, zl_add, zl_and]; rfl
/-! labels -/
def zlw (N : Nat) (f : Nat → Nat) : Prop := ∀ i, i < N → f i < N ∧ f (f i) = f i
def zun (f : Nat → Nat) (a b i : Nat) : Nat := if f i = f b then f a else f i
def zsm (N : Nat) (f g : Nat → Nat) : Prop := zlw N f ∧ zlw N g ∧ ∀ i j, i < N → j < N → (f i = f j ↔ g i = g j)
theorem zun_lw {N : Nat} {f : Nat → Nat} (h : zlw N f) {a b : Nat} (ha : a < N) : zlw N (zun f a b) := fun i hi => by
  unfold zun
  by_cases e : f i = f b
  · rw [if_pos e]
    refine ⟨(h a ha).1, ?_⟩
    rw [(h a ha).2]
    split <;> rfl
  · rw [if_neg e]
    refine ⟨(h i hi).1, ?_⟩
    rw [(h i hi).2, if_neg e]
theorem zun_eq {f : Nat → Nat} {a b i j : Nat} : zun f a b i = zun f a b j ↔ f i = f j ∨ (f i = f a ∨ f i = f b) ∧ (f j = f a ∨ f j = f b) := by
  unfold zun
  by_cases e1 : f i = f b <;> by_cases e2 : f j = f b
  · rw [if_pos e1, if_pos e2]
    exact ⟨fun _ => Or.inl (by omega), fun _ => rfl⟩
  · rw [if_pos e1, if_neg e2]
    constructor
    · intro h
      exact Or.inr ⟨Or.inr e1, Or.inl h.symm⟩
    · rintro (h | ⟨_, h | h⟩)
      · exact absurd (by omega) e2
      · exact h.symm
      · exact absurd h e2
  · rw [if_neg e1, if_pos e2]
    constructor
    · intro h
      exact Or.inr ⟨Or.inl h, Or.inr e2⟩
    · rintro (h | ⟨h | h, _⟩)
      · exact absurd (by omega) e1
      · exact h
      · exact absurd h e1
  · rw [if_neg e1, if_neg e2]
    constructor
    · exact Or.inl
    · rintro (h | ⟨h1 | h1, h2 | h2⟩)
      · exact h
      · omega
      · exact absurd h2 e2
      · exact absurd h1 e1
      · exact absurd h1 e1
theorem zsm_un {N : Nat} {f g : Nat → Nat} (h : zsm N f g) {a b x y : Nat} (ha : a < N) (hb : b < N) (hxy : x = a ∧ y = b ∨ x = b ∧ y = a) : zsm N (zun f a b) (zun g x y) := by
  obtain ⟨h1, h2, h3⟩ := h
  refine ⟨zun_lw h1 ha, zun_lw h2 (by rcases hxy with ⟨rfl, rfl⟩ | ⟨rfl, rfl⟩ <;> assumption), fun i j hi hj => ?_⟩
  rw [zun_eq, zun_eq, h3 i j hi hj, h3 i a hi ha, h3 i b hi hb, h3 j a hj ha, h3 j b hj hb]
  rcases hxy with ⟨rfl, rfl⟩ | ⟨rfl, rfl⟩
  · exact Iff.rfl
  · rw [Or.comm (a := g i = g y), Or.comm (a := g j = g y)]
theorem zinj {M : Nat} : ∀ (n : Nat) (P Q : Nat → Bool) (φ : Nat → Nat), (∀ i, i < n → P i = true → φ i < M ∧ Q (φ i) = true) → (∀ i j, i < n → j < n → P i = true → P j = true → φ i = φ j → i = j) → zsum P (fun _ => 1) n ≤ zsum Q (fun _ => 1) M
  | 0, P, Q, φ, h1, h2 => Nat.zero_le _
  | n + 1, P, Q, φ, h1, h2 => by
    rw [zsum]
    cases e : P n with
    | false =>
      rw [if_neg (by decide), Nat.add_zero]
      exact zinj n P Q φ (fun i hi hp => h1 i (by omega) hp) (fun i j hi hj => h2 i j (by omega) (by omega))
    | true =>
      obtain ⟨q1, q2⟩ := h1 n (by omega) e
      have hr := zsum_rm (P := Q) (P' := fun q => Q q && !decide (φ n = q)) (cur := φ n) (fun q => rfl) q2 M q1
      have ih := zinj n P (fun q => Q q && !decide (φ n = q)) φ (fun i hi hp => by
        obtain ⟨p1, p2⟩ := h1 i (by omega) hp
        refine ⟨p1, ?_⟩
        show (Q (φ i) && !decide (φ n = φ i)) = true
        rw [p2, Bool.true_and, Bool.not_eq_true', decide_eq_false_iff_not]
        intro e2
        have := h2 n i (by omega) (by omega) e hp e2
        omega) (fun i j hi hj => h2 i j (by omega) (by omega))
      rw [if_pos rfl]
      omega
theorem zsm_sym {N : Nat} {f g : Nat → Nat} (h : zsm N f g) : zsm N g f := ⟨h.2.1, h.1, fun i j hi hj => (h.2.2 i j hi hj).symm⟩
theorem zsm_le {N : Nat} {f g : Nat → Nat} (h : zsm N f g) : zsum (fun i => f i == i) (fun _ => 1) N ≤ zsum (fun i => g i == i) (fun _ => 1) N :=
  zinj N _ _ g (fun i hi hp => ⟨(h.2.1 i hi).1, beq_iff_eq.mpr (h.2.1 i hi).2⟩) (fun i j hi hj hp hq e => by
    have h1 := beq_iff_eq.mp hp
    have h2 := beq_iff_eq.mp hq
    have := (h.2.2 i j hi hj).mpr e
    omega)
theorem zsm_cnt {N : Nat} {f g : Nat → Nat} (h : zsm N f g) : zsum (fun i => f i == i) (fun _ => 1) N = zsum (fun i => g i == i) (fun _ => 1) N := Nat.le_antisymm (zsm_le h) (zsm_le (zsm_sym h))
