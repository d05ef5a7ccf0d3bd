/-! images -/
theorem zcp_o {I : zI} {i j c k : Nat} {a b n : Int32} (h : c ≠ j) : zcopy I i j a b n c k = I c k := by
  unfold zcopy zrow
  rw [if_neg h]
theorem zcp_i {I : zI} {i j k m : Nat} {n : Int32} (hn : n.toNatClampNeg = m) (h : k < m) : zcopy I i j 0 0 n j k = I i k := by
  unfold zcopy zrow
  rw [if_pos rfl, hn, pk_cpy_in (by rw [zcl0]; omega) (by rw [zcl0]; omega), zcl0, Nat.sub_zero, Nat.zero_add]
theorem zcp_i6 {I : zI} {i j k : Nat} (h : k < 6) : zcopy I i j 0 0 6 j k = I i k := zcp_i (m := 6) (by decide) h
theorem zcp_i8 {I : zI} {i j k : Nat} (h : k < 8) : zcopy I i j 0 0 8 j k = I i k := zcp_i (m := 8) (by decide) h
theorem zcp_i10 {I : zI} {i j k : Nat} (h : k < 10) : zcopy I i j 0 0 10 j k = I i k := zcp_i (m := 10) (by decide) h
theorem zcp_i12 {I : zI} {i j k : Nat} (h : k < 12) : zcopy I i j 0 0 12 j k = I i k := zcp_i (m := 12) (by decide) h
theorem zcp_i16 {I : zI} {i j k : Nat} (h : k < 16) : zcopy I i j 0 0 16 j k = I i k := zcp_i (m := 16) (by decide) h
theorem zcp_i24 {I : zI} {i j k : Nat} (h : k < 24) : zcopy I i j 0 0 24 j k = I i k := zcp_i (m := 24) (by decide) h
theorem zcp_i32 {I : zI} {i j k : Nat} (h : k < 32) : zcopy I i j 0 0 32 j k = I i k := zcp_i (m := 32) (by decide) h
theorem zcp_i60 {I : zI} {i j k : Nat} (h : k < 60) : zcopy I i j 0 0 60 j k = I i k := zcp_i (m := 60) (by decide) h
def zwk (c k : Nat) : Prop := c = 1 ∧ (k = 7 ∨ k = 9 ∨ k = 10) ∨ c = 2 ∧ (k = 0 ∨ k = 2) ∨ c = 3 ∧ k < 8 ∨ c = 4 ∧ k < 32 ∨ c = 5 ∧ k < 16 ∨ c = 6 ∧ k < 32 ∨ c = 7 ∧ k = 0 ∨ 8 ≤ c ∧ c ≤ 11 ∧ k < 10 ∨ 13 ≤ c ∧ c ≤ 22 ∧ k < 8 ∨ c = 23 ∧ (k = 0 ∨ k = 3) ∨ 24 ≤ c ∧ c ≤ 28 ∧ k < 6 ∨ c = 29 ∧ k < 2 ∨ 30 ≤ c ∧ c ≤ 31 ∧ k < 12 ∨ (c = 35 ∨ c = 40) ∧ k < 2 ∨ (c = 36 ∨ c = 37 ∨ c = 41 ∨ c = 42 ∨ c = 45) ∧ k < 60 ∨ c = 46 ∧ k < 24
theorem tk_ground (I : zI) : ∃ R, fc_Ground_takeOver I = some R ∧ (∀ c k, ¬ (48 ≤ c ∧ c ≤ 52) → R c k = I c k) ∧ ∀ c k, zwk c k → 2 ≤ c → c ≤ 6 → R (c + 46) k = I (c + 0) k := by
  refine ⟨_, rfl, fun c k hc => ?_, fun c k hc h1 h2 => ?_⟩
  · rw [zcp_o (by omega), zcp_o (by omega), zcp_o (by omega), zup_o (by omega), zcp_o (by omega), zup_o (by omega)]
  · unfold zwk at hc
    rcases (show c = 2 ∨ c = 3 ∨ c = 4 ∨ c = 5 ∨ c = 6 by omega) with rfl | rfl | rfl | rfl | rfl
    · rcases (show k = 0 ∨ k = 2 by omega) with rfl | rfl
      · rw [zcp_o (by omega), zcp_o (by omega), zcp_o (by omega), zup_o (by omega), zcp_o (by omega), zup_y]
      · rw [zcp_o (by omega), zcp_o (by omega), zcp_o (by omega), zup_y, zcp_o (by omega), zup_o (by omega)]
    · rw [zcp_o (by omega), zcp_o (by omega), zcp_o (by omega), zup_o (by omega), zcp_i8 (by omega), zup_o (by omega)]
    · rw [zcp_o (by omega), zcp_o (by omega), zcp_i32 (by omega), zup_o (by omega), zcp_o (by omega), zup_o (by omega)]
    · rw [zcp_o (by omega), zcp_i16 (by omega), zcp_o (by omega), zup_o (by omega), zcp_o (by omega), zup_o (by omega)]
    · rw [zcp_i32 (by omega), zcp_o (by omega), zcp_o (by omega), zup_o (by omega), zcp_o (by omega), zup_o (by omega)]
theorem tk_walks_L : ∀ (m j fuel : Nat) (I : zI), j + m = 10 → m < fuel → ∃ R, fc_Walks_takeOver_L70 fuel (nI j) I = some R ∧ (∀ c k, ¬ (59 + j ≤ c ∧ c ≤ 68) → R c k = I c k) ∧ ∀ c k, k < 8 → 13 + j ≤ c → c ≤ 22 → R (c + 46) k = I (c + 0) k
  | 0, j, fuel, I, hj, hf => by
    obtain ⟨g, rfl⟩ : ∃ g, fuel = g + 1 := ⟨fuel - 1, by omega⟩
    rw [fc_Walks_takeOver_L70, if_pos (show (10 : Int32) ≤ nI j from nI_le (a := 10) (by omega) (by omega))]
    exact ⟨I, rfl, fun _ _ _ => rfl, fun c k _ h1 h2 => by omega⟩
  | m + 1, j, fuel, I, hj, hf => by
    obtain ⟨g, rfl⟩ : ∃ g, fuel = g + 1 := ⟨fuel - 1, by omega⟩
    rw [fc_Walks_takeOver_L70, if_neg (show ¬ (10 : Int32) ≤ nI j from nI_ge (b := 10) (by omega) (by omega)), zl_b (by omega), show decide (j < 10) = true from decide_eq_true (by omega), zl_cl j (by omega), nI_1]
    simp only [z_guard, if_true]
    obtain ⟨R, r1, r2, r3⟩ := tk_walks_L m (j + 1) g (zcopy I (13 + j) (59 + j) 0 0 8) (by omega) (by omega)
    refine ⟨R, r1, fun c k hc => ?_, fun c k hk h1 h2 => ?_⟩
    · rw [r2 c k (by omega), zcp_o (by omega)]
    · by_cases hcj : c = 13 + j
      · subst hcj
        rw [r2 _ _ (by omega), show 13 + j + 46 = 59 + j by omega, zcp_i8 hk, show 13 + j + 0 = 13 + j by omega]
      · rw [r3 c k hk (by omega) h2, zcp_o (by omega)]
theorem tk_walks (I : zI) : ∃ R, fc_Walks_takeOver I = some R ∧ (∀ c k, ¬ (53 ≤ c ∧ c ≤ 68) → R c k = I c k) ∧ ∀ c k, zwk c k → 7 ≤ c → c ≤ 22 → R (c + 46) k = I (c + 0) k := by
  unfold fc_Walks_takeOver
  obtain ⟨R, r1, r2, r3⟩ := tk_walks_L 10 0 100 (zcopy (zcopy (zcopy (zcopy (zup I 53 0 (I 7 0)) 8 54 0 0 10) 9 55 0 0 10) 10 56 0 0 10) 11 57 0 0 10) (by omega) (by omega)
  refine ⟨R, r1, fun c k hc => ?_, fun c k hc h1 h2 => ?_⟩
  · rw [r2 c k (by omega), zcp_o (by omega), zcp_o (by omega), zcp_o (by omega), zcp_o (by omega), zup_o (by omega)]
  · unfold zwk at hc
    by_cases h13 : 13 ≤ c
    · rw [r3 c k (by omega) (by omega) h2, zcp_o (by omega), zcp_o (by omega), zcp_o (by omega), zcp_o (by omega), zup_o (by omega)]
    · rw [r2 _ _ (by omega)]
      rcases (show c = 7 ∨ c = 8 ∨ c = 9 ∨ c = 10 ∨ c = 11 by omega) with rfl | rfl | rfl | rfl | rfl
      · rw [zcp_o (by omega), zcp_o (by omega), zcp_o (by omega), zcp_o (by omega), show k = 0 by omega, zup_y]
      · rw [zcp_o (by omega), zcp_o (by omega), zcp_o (by omega), zcp_i10 (by omega), zup_o (by omega)]
      · rw [zcp_o (by omega), zcp_o (by omega), zcp_i10 (by omega), zcp_o (by omega), zup_o (by omega)]
      · rw [zcp_o (by omega), zcp_i10 (by omega), zcp_o (by omega), zcp_o (by omega), zup_o (by omega)]
      · rw [zcp_i10 (by omega), zcp_o (by omega), zcp_o (by omega), zcp_o (by omega), zup_o (by omega)]
theorem tk_folk (I : zI) : ∃ R, fc_Folk_takeOver I = some R ∧ (∀ c k, ¬ (69 ≤ c ∧ c ≤ 74) → R c k = I c k) ∧ ∀ c k, zwk c k → 23 ≤ c → c ≤ 28 → R (c + 46) k = I (c + 0) k := by
  refine ⟨_, rfl, fun c k hc => ?_, fun c k hc h1 h2 => ?_⟩
  · rw [zcp_o (by omega), zcp_o (by omega), zcp_o (by omega), zup_o (by omega), zcp_o (by omega), zcp_o (by omega), zup_o (by omega)]
  · unfold zwk at hc
    rcases (show c = 23 ∨ c = 24 ∨ c = 25 ∨ c = 26 ∨ c = 27 ∨ c = 28 by omega) with rfl | rfl | rfl | rfl | rfl | rfl
    · rcases (show k = 0 ∨ k = 3 by omega) with rfl | rfl
      · rw [zcp_o (by omega), zcp_o (by omega), zcp_o (by omega), zup_o (by omega), zcp_o (by omega), zcp_o (by omega), zup_y]
      · rw [zcp_o (by omega), zcp_o (by omega), zcp_o (by omega), zup_y, zcp_o (by omega), zcp_o (by omega), zup_o (by omega)]
    · rw [zcp_o (by omega), zcp_o (by omega), zcp_o (by omega), zup_o (by omega), zcp_o (by omega), zcp_i6 (by omega), zup_o (by omega)]
    · rw [zcp_o (by omega), zcp_o (by omega), zcp_o (by omega), zup_o (by omega), zcp_i6 (by omega), zcp_o (by omega), zup_o (by omega)]
    · rw [zcp_o (by omega), zcp_o (by omega), zcp_i6 (by omega), zup_o (by omega), zcp_o (by omega), zcp_o (by omega), zup_o (by omega)]
    · rw [zcp_o (by omega), zcp_i6 (by omega), zcp_o (by omega), zup_o (by omega), zcp_o (by omega), zcp_o (by omega), zup_o (by omega)]
    · rw [zcp_i6 (by omega), zcp_o (by omega), zcp_o (by omega), zup_o (by omega), zcp_o (by omega), zcp_o (by omega), zup_o (by omega)]
theorem tk_doubts (I : zI) : ∃ R, fc_Doubts_takeOver I = some R ∧ (∀ c k, ¬ (75 ≤ c ∧ c ≤ 77) → R c k = I c k) ∧ ∀ c k, zwk c k → 29 ≤ c → c ≤ 31 → R (c + 46) k = I (c + 0) k := by
  refine ⟨_, rfl, fun c k hc => ?_, fun c k hc h1 h2 => ?_⟩
  · rw [zcp_o (by omega), zcp_o (by omega), zup_o (by omega), zup_o (by omega)]
  · unfold zwk at hc
    rcases (show c = 29 ∨ c = 30 ∨ c = 31 by omega) with rfl | rfl | rfl
    · rcases (show k = 0 ∨ k = 1 by omega) with rfl | rfl
      · rw [zcp_o (by omega), zcp_o (by omega), zup_o (by omega), zup_y]
      · rw [zcp_o (by omega), zcp_o (by omega), zup_y]
    · rw [zcp_o (by omega), zcp_i12 (by omega), zup_o (by omega), zup_o (by omega)]
    · rw [zcp_i12 (by omega), zcp_o (by omega), zup_o (by omega), zup_o (by omega)]
theorem tk_text (I : zI) (h0 : I 35 0 = 0 ∨ I 35 0 = 1) : ∃ R, fc_Text_takeOver I = some R ∧ (∀ c k, ¬ (81 ≤ c ∧ c ≤ 83) → R c k = I c k) ∧ ∀ c k, zwk c k → 35 ≤ c → c ≤ 37 → R (c + 46) k = I (c + 0) k := by
  unfold fc_Text_takeOver
  rw [show zbb (I 35 0) = true by unfold zbb; rcases h0 with h | h <;> rw [h] <;> rfl]
  refine ⟨_, rfl, fun c k hc => ?_, fun c k hc h1 h2 => ?_⟩
  · rw [zcp_o (by omega), zcp_o (by omega), zup_o (by omega), zup_o (by omega)]
  · unfold zwk at hc
    rcases (show c = 35 ∨ c = 36 ∨ c = 37 by omega) with rfl | rfl | rfl
    · rcases (show k = 0 ∨ k = 1 by omega) with rfl | rfl
      · rw [zcp_o (by omega), zcp_o (by omega), zup_o (by omega), zup_y]
      · rw [zcp_o (by omega), zcp_o (by omega), zup_y]
    · rw [zcp_o (by omega), zcp_i60 (by omega), zup_o (by omega), zup_o (by omega)]
    · rw [zcp_i60 (by omega), zcp_o (by omega), zup_o (by omega), zup_o (by omega)]
theorem tk_text_2 (I : zI) (h0 : I 40 0 = 0 ∨ I 40 0 = 1) : ∃ R, fc_Text_takeOver_2 I = some R ∧ (∀ c k, ¬ (86 ≤ c ∧ c ≤ 88) → R c k = I c k) ∧ ∀ c k, zwk c k → 40 ≤ c → c ≤ 42 → R (c + 46) k = I (c + 0) k := by
  unfold fc_Text_takeOver_2
  rw [show zbb (I 40 0) = true by unfold zbb; rcases h0 with h | h <;> rw [h] <;> rfl]
  refine ⟨_, rfl, fun c k hc => ?_, fun c k hc h1 h2 => ?_⟩
  · rw [zcp_o (by omega), zcp_o (by omega), zup_o (by omega), zup_o (by omega)]
  · unfold zwk at hc
    rcases (show c = 40 ∨ c = 41 ∨ c = 42 by omega) with rfl | rfl | rfl
    · rcases (show k = 0 ∨ k = 1 by omega) with rfl | rfl
      · rw [zcp_o (by omega), zcp_o (by omega), zup_o (by omega), zup_y]
      · rw [zcp_o (by omega), zcp_o (by omega), zup_y]
    · rw [zcp_o (by omega), zcp_i60 (by omega), zup_o (by omega), zup_o (by omega)]
    · rw [zcp_i60 (by omega), zcp_o (by omega), zup_o (by omega), zup_o (by omega)]
theorem tk_world (I : zI) (h0 : I 35 0 = 0 ∨ I 35 0 = 1) (h1 : I 40 0 = 0 ∨ I 40 0 = 1) : ∃ R, fc_World_takeOver I = some R ∧ (∀ c k, ¬ (47 ≤ c ∧ c ≤ 92) → R c k = I c k) ∧ ∀ c k, zwk c k → R (c + 46) k = I (c + 0) k := by
  obtain ⟨R1, a1, a2, a3⟩ := tk_ground I
  obtain ⟨R2, b1, b2, b3⟩ := tk_walks R1
  obtain ⟨R3, c1, c2, c3⟩ := tk_folk R2
  obtain ⟨R4, d1, d2, d3⟩ := tk_doubts R3
  have q0 : ∀ c k, ¬ (48 ≤ c ∧ c ≤ 77) → R4 c k = I c k := fun c k hc => by rw [d2 c k (by omega), c2 c k (by omega), b2 c k (by omega), a2 c k (by omega)]
  obtain ⟨R5, e1, e2, e3⟩ := tk_text R4 (by rw [q0 _ _ (by omega)]; exact h0)
  have q1 : ∀ c k, ¬ (48 ≤ c ∧ c ≤ 83) → R5 c k = I c k := fun c k hc => by rw [e2 c k (by omega), q0 c k (by omega)]
  obtain ⟨R6, f1, f2, f3⟩ := tk_text_2 R5 (by rw [q1 _ _ (by omega)]; exact h1)
  have q2 : ∀ c k, ¬ (48 ≤ c ∧ c ≤ 88) → R6 c k = I c k := fun c k hc => by rw [f2 c k (by omega), q1 c k (by omega)]
  unfold fc_World_takeOver
  rw [a1, Option.bind_some, b1, Option.bind_some, c1, Option.bind_some, d1, Option.bind_some, e1, Option.bind_some, f1, Option.bind_some]
  refine ⟨_, rfl, fun c k hc => ?_, fun c k hc => ?_⟩
  · rw [zup_o (by omega), zup_o (by omega), zcp_o (by omega), zup_o (by omega), zcp_o (by omega)]; exact q2 c k (by omega)
  · have hc2 := hc
    unfold zwk at hc2
    by_cases h1 : c = 1
    · subst h1
      rcases (show k = 7 ∨ k = 9 ∨ k = 10 by omega) with rfl | rfl | rfl
      · rw [zup_o (by omega), zup_o (by omega), zcp_o (by omega), zup_y, zcp_o (by omega)]; exact q2 _ _ (by omega)
      · rw [zup_o (by omega), zup_y, zcp_o (by omega), zup_o (by omega), zcp_o (by omega)]; exact q2 _ _ (by omega)
      · rw [zup_y, zcp_o (by omega), zup_o (by omega), zcp_o (by omega)]; exact q2 _ _ (by omega)
    · rw [zup_o (by omega), zup_o (by omega)]
      by_cases h46 : c = 46
      · subst h46
        rw [zcp_i24 (by omega), zup_o (by omega), zcp_o (by omega)]; exact q2 _ _ (by omega)
      · rw [zcp_o (by omega), zup_o (by omega)]
        by_cases h45 : c = 45
        · subst h45
          rw [zcp_i60 (by omega)]; exact q2 _ _ (by omega)
        · rw [zcp_o (by omega)]
          by_cases k1 : c ≤ 6
          · rw [f2 _ _ (by omega), e2 _ _ (by omega), d2 _ _ (by omega), c2 _ _ (by omega), b2 _ _ (by omega)]
            exact a3 c k hc (by omega) k1
          · by_cases k2 : c ≤ 22
            · rw [f2 _ _ (by omega), e2 _ _ (by omega), d2 _ _ (by omega), c2 _ _ (by omega), b3 c k hc (by omega) k2, a2 _ _ (by omega)]
            · by_cases k3 : c ≤ 28
              · rw [f2 _ _ (by omega), e2 _ _ (by omega), d2 _ _ (by omega), c3 c k hc (by omega) k3, b2 _ _ (by omega), a2 _ _ (by omega)]
              · by_cases k4 : c ≤ 31
                · rw [f2 _ _ (by omega), e2 _ _ (by omega), d3 c k hc (by omega) k4, c2 _ _ (by omega), b2 _ _ (by omega), a2 _ _ (by omega)]
                · by_cases k5 : c ≤ 37
                  · rw [f2 _ _ (by omega), e3 c k hc (by omega) k5]; exact q0 _ _ (by omega)
                  · rw [f3 c k hc (by omega) (by omega)]; exact q1 _ _ (by omega)
theorem tk_ground_2 (I : zI) : ∃ R, fc_Ground_takeOver_2 I = some R ∧ (∀ c k, ¬ (2 ≤ c ∧ c ≤ 6) → R c k = I c k) ∧ ∀ c k, zwk c k → 2 ≤ c → c ≤ 6 → R (c + 0) k = I (c + 46) k := by
  refine ⟨_, rfl, fun c k hc => ?_, fun c k hc h1 h2 => ?_⟩
  · rw [zcp_o (by omega), zcp_o (by omega), zcp_o (by omega), zup_o (by omega), zcp_o (by omega), zup_o (by omega)]
  · unfold zwk at hc
    rcases (show c = 2 ∨ c = 3 ∨ c = 4 ∨ c = 5 ∨ c = 6 by omega) with rfl | rfl | rfl | rfl | rfl
    · rcases (show k = 0 ∨ k = 2 by omega) with rfl | rfl
      · rw [zcp_o (by omega), zcp_o (by omega), zcp_o (by omega), zup_o (by omega), zcp_o (by omega), zup_y]
      · rw [zcp_o (by omega), zcp_o (by omega), zcp_o (by omega), zup_y, zcp_o (by omega), zup_o (by omega)]
    · rw [zcp_o (by omega), zcp_o (by omega), zcp_o (by omega), zup_o (by omega), zcp_i8 (by omega), zup_o (by omega)]
    · rw [zcp_o (by omega), zcp_o (by omega), zcp_i32 (by omega), zup_o (by omega), zcp_o (by omega), zup_o (by omega)]
    · rw [zcp_o (by omega), zcp_i16 (by omega), zcp_o (by omega), zup_o (by omega), zcp_o (by omega), zup_o (by omega)]
    · rw [zcp_i32 (by omega), zcp_o (by omega), zcp_o (by omega), zup_o (by omega), zcp_o (by omega), zup_o (by omega)]
theorem tk_walks_L_2 : ∀ (m j fuel : Nat) (I : zI), j + m = 10 → m < fuel → ∃ R, fc_Walks_takeOver_2_L70 fuel (nI j) I = some R ∧ (∀ c k, ¬ (13 + j ≤ c ∧ c ≤ 22) → R c k = I c k) ∧ ∀ c k, k < 8 → 13 + j ≤ c → c ≤ 22 → R (c + 0) k = I (c + 46) k
  | 0, j, fuel, I, hj, hf => by
    obtain ⟨g, rfl⟩ : ∃ g, fuel = g + 1 := ⟨fuel - 1, by omega⟩
    rw [fc_Walks_takeOver_2_L70, if_pos (show (10 : Int32) ≤ nI j from nI_le (a := 10) (by omega) (by omega))]
    exact ⟨I, rfl, fun _ _ _ => rfl, fun c k _ h1 h2 => by omega⟩
  | m + 1, j, fuel, I, hj, hf => by
    obtain ⟨g, rfl⟩ : ∃ g, fuel = g + 1 := ⟨fuel - 1, by omega⟩
    rw [fc_Walks_takeOver_2_L70, if_neg (show ¬ (10 : Int32) ≤ nI j from nI_ge (b := 10) (by omega) (by omega)), zl_b (by omega), show decide (j < 10) = true from decide_eq_true (by omega), zl_cl j (by omega), nI_1]
    simp only [z_guard, if_true]
    obtain ⟨R, r1, r2, r3⟩ := tk_walks_L_2 m (j + 1) g (zcopy I (59 + j) (13 + j) 0 0 8) (by omega) (by omega)
    refine ⟨R, r1, fun c k hc => ?_, fun c k hk h1 h2 => ?_⟩
    · rw [r2 c k (by omega), zcp_o (by omega)]
    · by_cases hcj : c = 13 + j
      · subst hcj
        rw [r2 _ _ (by omega), show 13 + j + 0 = 13 + j by omega, zcp_i8 hk, show 13 + j + 46 = 59 + j by omega]
      · rw [r3 c k hk (by omega) h2, zcp_o (by omega)]
theorem tk_walks_2 (I : zI) : ∃ R, fc_Walks_takeOver_2 I = some R ∧ (∀ c k, ¬ (7 ≤ c ∧ c ≤ 22) → R c k = I c k) ∧ ∀ c k, zwk c k → 7 ≤ c → c ≤ 22 → R (c + 0) k = I (c + 46) k := by
  unfold fc_Walks_takeOver_2
  obtain ⟨R, r1, r2, r3⟩ := tk_walks_L_2 10 0 100 (zcopy (zcopy (zcopy (zcopy (zup I 7 0 (I 53 0)) 54 8 0 0 10) 55 9 0 0 10) 56 10 0 0 10) 57 11 0 0 10) (by omega) (by omega)
  refine ⟨R, r1, fun c k hc => ?_, fun c k hc h1 h2 => ?_⟩
  · rw [r2 c k (by omega), zcp_o (by omega), zcp_o (by omega), zcp_o (by omega), zcp_o (by omega), zup_o (by omega)]
  · unfold zwk at hc
    by_cases h13 : 13 ≤ c
    · rw [r3 c k (by omega) (by omega) h2, zcp_o (by omega), zcp_o (by omega), zcp_o (by omega), zcp_o (by omega), zup_o (by omega)]
    · rw [r2 _ _ (by omega)]
      rcases (show c = 7 ∨ c = 8 ∨ c = 9 ∨ c = 10 ∨ c = 11 by omega) with rfl | rfl | rfl | rfl | rfl
      · rw [zcp_o (by omega), zcp_o (by omega), zcp_o (by omega), zcp_o (by omega), show k = 0 by omega, zup_y]
      · rw [zcp_o (by omega), zcp_o (by omega), zcp_o (by omega), zcp_i10 (by omega), zup_o (by omega)]
      · rw [zcp_o (by omega), zcp_o (by omega), zcp_i10 (by omega), zcp_o (by omega), zup_o (by omega)]
      · rw [zcp_o (by omega), zcp_i10 (by omega), zcp_o (by omega), zcp_o (by omega), zup_o (by omega)]
      · rw [zcp_i10 (by omega), zcp_o (by omega), zcp_o (by omega), zcp_o (by omega), zup_o (by omega)]
theorem tk_folk_2 (I : zI) : ∃ R, fc_Folk_takeOver_2 I = some R ∧ (∀ c k, ¬ (23 ≤ c ∧ c ≤ 28) → R c k = I c k) ∧ ∀ c k, zwk c k → 23 ≤ c → c ≤ 28 → R (c + 0) k = I (c + 46) k := by
  refine ⟨_, rfl, fun c k hc => ?_, fun c k hc h1 h2 => ?_⟩
  · rw [zcp_o (by omega), zcp_o (by omega), zcp_o (by omega), zup_o (by omega), zcp_o (by omega), zcp_o (by omega), zup_o (by omega)]
  · unfold zwk at hc
    rcases (show c = 23 ∨ c = 24 ∨ c = 25 ∨ c = 26 ∨ c = 27 ∨ c = 28 by omega) with rfl | rfl | rfl | rfl | rfl | rfl
    · rcases (show k = 0 ∨ k = 3 by omega) with rfl | rfl
      · rw [zcp_o (by omega), zcp_o (by omega), zcp_o (by omega), zup_o (by omega), zcp_o (by omega), zcp_o (by omega), zup_y]
      · rw [zcp_o (by omega), zcp_o (by omega), zcp_o (by omega), zup_y, zcp_o (by omega), zcp_o (by omega), zup_o (by omega)]
    · rw [zcp_o (by omega), zcp_o (by omega), zcp_o (by omega), zup_o (by omega), zcp_o (by omega), zcp_i6 (by omega), zup_o (by omega)]
    · rw [zcp_o (by omega), zcp_o (by omega), zcp_o (by omega), zup_o (by omega), zcp_i6 (by omega), zcp_o (by omega), zup_o (by omega)]
    · rw [zcp_o (by omega), zcp_o (by omega), zcp_i6 (by omega), zup_o (by omega), zcp_o (by omega), zcp_o (by omega), zup_o (by omega)]
    · rw [zcp_o (by omega), zcp_i6 (by omega), zcp_o (by omega), zup_o (by omega), zcp_o (by omega), zcp_o (by omega), zup_o (by omega)]
    · rw [zcp_i6 (by omega), zcp_o (by omega), zcp_o (by omega), zup_o (by omega), zcp_o (by omega), zcp_o (by omega), zup_o (by omega)]
theorem tk_doubts_2 (I : zI) : ∃ R, fc_Doubts_takeOver_2 I = some R ∧ (∀ c k, ¬ (29 ≤ c ∧ c ≤ 31) → R c k = I c k) ∧ ∀ c k, zwk c k → 29 ≤ c → c ≤ 31 → R (c + 0) k = I (c + 46) k := by
  refine ⟨_, rfl, fun c k hc => ?_, fun c k hc h1 h2 => ?_⟩
  · rw [zcp_o (by omega), zcp_o (by omega), zup_o (by omega), zup_o (by omega)]
  · unfold zwk at hc
    rcases (show c = 29 ∨ c = 30 ∨ c = 31 by omega) with rfl | rfl | rfl
    · rcases (show k = 0 ∨ k = 1 by omega) with rfl | rfl
      · rw [zcp_o (by omega), zcp_o (by omega), zup_o (by omega), zup_y]
      · rw [zcp_o (by omega), zcp_o (by omega), zup_y]
    · rw [zcp_o (by omega), zcp_i12 (by omega), zup_o (by omega), zup_o (by omega)]
    · rw [zcp_i12 (by omega), zcp_o (by omega), zup_o (by omega), zup_o (by omega)]
theorem tk_text_3 (I : zI) (h0 : I 81 0 = 0 ∨ I 81 0 = 1) : ∃ R, fc_Text_takeOver_3 I = some R ∧ (∀ c k, ¬ (35 ≤ c ∧ c ≤ 37) → R c k = I c k) ∧ ∀ c k, zwk c k → 35 ≤ c → c ≤ 37 → R (c + 0) k = I (c + 46) k := by
  unfold fc_Text_takeOver_3
  rw [show zbb (I 81 0) = true by unfold zbb; rcases h0 with h | h <;> rw [h] <;> rfl]
  refine ⟨_, rfl, fun c k hc => ?_, fun c k hc h1 h2 => ?_⟩
  · rw [zcp_o (by omega), zcp_o (by omega), zup_o (by omega), zup_o (by omega)]
  · unfold zwk at hc
    rcases (show c = 35 ∨ c = 36 ∨ c = 37 by omega) with rfl | rfl | rfl
    · rcases (show k = 0 ∨ k = 1 by omega) with rfl | rfl
      · rw [zcp_o (by omega), zcp_o (by omega), zup_o (by omega), zup_y]
      · rw [zcp_o (by omega), zcp_o (by omega), zup_y]
    · rw [zcp_o (by omega), zcp_i60 (by omega), zup_o (by omega), zup_o (by omega)]
    · rw [zcp_i60 (by omega), zcp_o (by omega), zup_o (by omega), zup_o (by omega)]
theorem tk_text_4 (I : zI) (h0 : I 86 0 = 0 ∨ I 86 0 = 1) : ∃ R, fc_Text_takeOver_4 I = some R ∧ (∀ c k, ¬ (40 ≤ c ∧ c ≤ 42) → R c k = I c k) ∧ ∀ c k, zwk c k → 40 ≤ c → c ≤ 42 → R (c + 0) k = I (c + 46) k := by
  unfold fc_Text_takeOver_4
  rw [show zbb (I 86 0) = true by unfold zbb; rcases h0 with h | h <;> rw [h] <;> rfl]
  refine ⟨_, rfl, fun c k hc => ?_, fun c k hc h1 h2 => ?_⟩
  · rw [zcp_o (by omega), zcp_o (by omega), zup_o (by omega), zup_o (by omega)]
  · unfold zwk at hc
    rcases (show c = 40 ∨ c = 41 ∨ c = 42 by omega) with rfl | rfl | rfl
    · rcases (show k = 0 ∨ k = 1 by omega) with rfl | rfl
      · rw [zcp_o (by omega), zcp_o (by omega), zup_o (by omega), zup_y]
      · rw [zcp_o (by omega), zcp_o (by omega), zup_y]
    · rw [zcp_o (by omega), zcp_i60 (by omega), zup_o (by omega), zup_o (by omega)]
    · rw [zcp_i60 (by omega), zcp_o (by omega), zup_o (by omega), zup_o (by omega)]
theorem tk_world_2 (I : zI) (h0 : I 81 0 = 0 ∨ I 81 0 = 1) (h1 : I 86 0 = 0 ∨ I 86 0 = 1) : ∃ R, fc_World_takeOver_2 I = some R ∧ (∀ c k, ¬ (1 ≤ c ∧ c ≤ 46) → R c k = I c k) ∧ ∀ c k, zwk c k → R (c + 0) k = I (c + 46) k := by
  obtain ⟨R1, a1, a2, a3⟩ := tk_ground_2 I
  obtain ⟨R2, b1, b2, b3⟩ := tk_walks_2 R1
  obtain ⟨R3, c1, c2, c3⟩ := tk_folk_2 R2
  obtain ⟨R4, d1, d2, d3⟩ := tk_doubts_2 R3
  have q0 : ∀ c k, ¬ (2 ≤ c ∧ c ≤ 31) → R4 c k = I c k := fun c k hc => by rw [d2 c k (by omega), c2 c k (by omega), b2 c k (by omega), a2 c k (by omega)]
  obtain ⟨R5, e1, e2, e3⟩ := tk_text_3 R4 (by rw [q0 _ _ (by omega)]; exact h0)
  have q1 : ∀ c k, ¬ (2 ≤ c ∧ c ≤ 37) → R5 c k = I c k := fun c k hc => by rw [e2 c k (by omega), q0 c k (by omega)]
  obtain ⟨R6, f1, f2, f3⟩ := tk_text_4 R5 (by rw [q1 _ _ (by omega)]; exact h1)
  have q2 : ∀ c k, ¬ (2 ≤ c ∧ c ≤ 42) → R6 c k = I c k := fun c k hc => by rw [f2 c k (by omega), q1 c k (by omega)]
  unfold fc_World_takeOver_2
  rw [a1, Option.bind_some, b1, Option.bind_some, c1, Option.bind_some, d1, Option.bind_some, e1, Option.bind_some, f1, Option.bind_some]
  refine ⟨_, rfl, fun c k hc => ?_, fun c k hc => ?_⟩
  · rw [zup_o (by omega), zup_o (by omega), zcp_o (by omega), zup_o (by omega), zcp_o (by omega)]; exact q2 c k (by omega)
  · have hc2 := hc
    unfold zwk at hc2
    by_cases h1 : c = 1
    · subst h1
      rcases (show k = 7 ∨ k = 9 ∨ k = 10 by omega) with rfl | rfl | rfl
      · rw [zup_o (by omega), zup_o (by omega), zcp_o (by omega), zup_y, zcp_o (by omega)]; exact q2 _ _ (by omega)
      · rw [zup_o (by omega), zup_y, zcp_o (by omega), zup_o (by omega), zcp_o (by omega)]; exact q2 _ _ (by omega)
      · rw [zup_y, zcp_o (by omega), zup_o (by omega), zcp_o (by omega)]; exact q2 _ _ (by omega)
    · rw [zup_o (by omega), zup_o (by omega)]
      by_cases h46 : c = 46
      · subst h46
        rw [zcp_i24 (by omega), zup_o (by omega), zcp_o (by omega)]; exact q2 _ _ (by omega)
      · rw [zcp_o (by omega), zup_o (by omega)]
        by_cases h45 : c = 45
        · subst h45
          rw [zcp_i60 (by omega)]; exact q2 _ _ (by omega)
        · rw [zcp_o (by omega)]
          by_cases k1 : c ≤ 6
          · rw [f2 _ _ (by omega), e2 _ _ (by omega), d2 _ _ (by omega), c2 _ _ (by omega), b2 _ _ (by omega)]
            exact a3 c k hc (by omega) k1
          · by_cases k2 : c ≤ 22
            · rw [f2 _ _ (by omega), e2 _ _ (by omega), d2 _ _ (by omega), c2 _ _ (by omega), b3 c k hc (by omega) k2, a2 _ _ (by omega)]
            · by_cases k3 : c ≤ 28
              · rw [f2 _ _ (by omega), e2 _ _ (by omega), d2 _ _ (by omega), c3 c k hc (by omega) k3, b2 _ _ (by omega), a2 _ _ (by omega)]
              · by_cases k4 : c ≤ 31
                · rw [f2 _ _ (by omega), e2 _ _ (by omega), d3 c k hc (by omega) k4, c2 _ _ (by omega), b2 _ _ (by omega), a2 _ _ (by omega)]
                · by_cases k5 : c ≤ 37
                  · rw [f2 _ _ (by omega), e3 c k hc (by omega) k5]; exact q0 _ _ (by omega)
                  · rw [f3 c k hc (by omega) (by omega)]; exact q1 _ _ (by omega)
theorem m_copy_L : ∀ (m j fuel : Nat) (V : zI), j + m = 448 → m < fuel → ∃ V', fm_copy_L2 fuel (nI j) V = some V' ∧ (∀ k, j ≤ k → k < 448 → V' 2 k = V 1 k) ∧ ∀ c k, ¬ (c = 2 ∧ j ≤ k ∧ k < 448) → V' c k = V c k
  | 0, j, fuel, V, hj, hf => by
    obtain ⟨g, rfl⟩ : ∃ g, fuel = g + 1 := ⟨fuel - 1, by omega⟩
    rw [fm_copy_L2, if_pos (show (448 : Int32) ≤ nI j from nI_le (a := 448) (by omega) (by omega))]
    exact ⟨V, rfl, fun k h1 h2 => by omega, fun _ _ _ => rfl⟩
  | m + 1, j, fuel, V, hj, hf => by
    obtain ⟨g, rfl⟩ : ∃ g, fuel = g + 1 := ⟨fuel - 1, by omega⟩
    rw [fm_copy_L2, if_neg (show ¬ (448 : Int32) ≤ nI j from nI_ge (b := 448) (by omega) (by omega)), zl_b (by omega), show decide (j < 448) = true from decide_eq_true (by omega), zl_cl j (by omega), nI_1]
    simp only [z_guard, if_true]
    obtain ⟨V', r1, r2, r3⟩ := m_copy_L m (j + 1) g (zup V 2 j (V 1 j)) (by omega) (by omega)
    refine ⟨V', r1, fun k h1 h2 => ?_, fun c k hc => ?_⟩
    · by_cases hkj : k = j
      · subst hkj; rw [r3 _ _ (by omega), zup_y]
      · rw [r2 k (by omega) h2, zup_o (by omega)]
    · rw [r3 c k (by omega), zup_o (by omega)]
theorem m_copy_L_2 : ∀ (m j fuel : Nat) (V : zI), j + m = 448 → m < fuel → ∃ V', fm_copy_2_L2 fuel (nI j) V = some V' ∧ (∀ k, j ≤ k → k < 448 → V' 1 k = V 2 k) ∧ ∀ c k, ¬ (c = 1 ∧ j ≤ k ∧ k < 448) → V' c k = V c k
  | 0, j, fuel, V, hj, hf => by
    obtain ⟨g, rfl⟩ : ∃ g, fuel = g + 1 := ⟨fuel - 1, by omega⟩
    rw [fm_copy_2_L2, if_pos (show (448 : Int32) ≤ nI j from nI_le (a := 448) (by omega) (by omega))]
    exact ⟨V, rfl, fun k h1 h2 => by omega, fun _ _ _ => rfl⟩
  | m + 1, j, fuel, V, hj, hf => by
    obtain ⟨g, rfl⟩ : ∃ g, fuel = g + 1 := ⟨fuel - 1, by omega⟩
    rw [fm_copy_2_L2, if_neg (show ¬ (448 : Int32) ≤ nI j from nI_ge (b := 448) (by omega) (by omega)), zl_b (by omega), show decide (j < 448) = true from decide_eq_true (by omega), zl_cl j (by omega), nI_1]
    simp only [z_guard, if_true]
    obtain ⟨V', r1, r2, r3⟩ := m_copy_L_2 m (j + 1) g (zup V 1 j (V 2 j)) (by omega) (by omega)
    refine ⟨V', r1, fun k h1 h2 => ?_, fun c k hc => ?_⟩
    · by_cases hkj : k = j
      · subst hkj; rw [r3 _ _ (by omega), zup_y]
      · rw [r2 k (by omega) h2, zup_o (by omega)]
    · rw [r3 c k (by omega), zup_o (by omega)]
theorem rW_cg2 {V V' : zI} {B B' : Nat → Int32} (h : rW V B) (e : ∀ c k, zwk c k → V' c k = V c k) (e2 : ∀ k, k < 448 → B' k = B k) : rW V' B' := by
  have u2 : ∀ k, k = 0 ∨ k = 2 → V' 2 k = V 2 k := fun k hk => e 2 k (Or.inr (Or.inl ⟨rfl, hk⟩))
  have u3 : ∀ k, k < 8 → V' 3 k = V 3 k := fun k hk => e 3 k (Or.inr (Or.inr (Or.inl ⟨rfl, hk⟩)))
  have u4 : ∀ k, k < 32 → V' 4 k = V 4 k := fun k hk => e 4 k (Or.inr (Or.inr (Or.inr (Or.inl ⟨rfl, hk⟩))))
  have u5 : ∀ k, k < 16 → V' 5 k = V 5 k := fun k hk => e 5 k (Or.inr (Or.inr (Or.inr (Or.inr (Or.inl ⟨rfl, hk⟩)))))
  have u6 : ∀ k, k < 32 → V' 6 k = V 6 k := fun k hk => e 6 k (Or.inr (Or.inr (Or.inr (Or.inr (Or.inr (Or.inl ⟨rfl, hk⟩))))))
  have u7 : V' 7 0 = V 7 0 := e 7 0 (Or.inr (Or.inr (Or.inr (Or.inr (Or.inr (Or.inr (Or.inl ⟨rfl, rfl⟩)))))))
  have u8 : ∀ k, k < 10 → V' 8 k = V 8 k := fun k hk => e 8 k (Or.inr (Or.inr (Or.inr (Or.inr (Or.inr (Or.inr (Or.inr (Or.inl ⟨by omega, by omega, hk⟩))))))))
  have u9 : ∀ k, k < 10 → V' 9 k = V 9 k := fun k hk => e 9 k (Or.inr (Or.inr (Or.inr (Or.inr (Or.inr (Or.inr (Or.inr (Or.inl ⟨by omega, by omega, hk⟩))))))))
  have u10 : ∀ k, k < 10 → V' 10 k = V 10 k := fun k hk => e 10 k (Or.inr (Or.inr (Or.inr (Or.inr (Or.inr (Or.inr (Or.inr (Or.inl ⟨by omega, by omega, hk⟩))))))))
  have u11 : ∀ k, k < 10 → V' 11 k = V 11 k := fun k hk => e 11 k (Or.inr (Or.inr (Or.inr (Or.inr (Or.inr (Or.inr (Or.inr (Or.inl ⟨by omega, by omega, hk⟩))))))))
  have u13 : ∀ w k, w < 10 → k < 8 → V' (13 + w) k = V (13 + w) k := fun w k hw hk => e (13 + w) k (Or.inr (Or.inr (Or.inr (Or.inr (Or.inr (Or.inr (Or.inr (Or.inr (Or.inl ⟨by omega, by omega, hk⟩)))))))))
  have u23 : ∀ k, k = 0 ∨ k = 3 → V' 23 k = V 23 k := fun k hk => e 23 k (Or.inr (Or.inr (Or.inr (Or.inr (Or.inr (Or.inr (Or.inr (Or.inr (Or.inr (Or.inl ⟨rfl, hk⟩))))))))))
  have u24 : ∀ k, k < 6 → V' 24 k = V 24 k := fun k hk => e 24 k (Or.inr (Or.inr (Or.inr (Or.inr (Or.inr (Or.inr (Or.inr (Or.inr (Or.inr (Or.inr (Or.inl ⟨by omega, by omega, hk⟩)))))))))))
  have u25 : ∀ k, k < 6 → V' 25 k = V 25 k := fun k hk => e 25 k (Or.inr (Or.inr (Or.inr (Or.inr (Or.inr (Or.inr (Or.inr (Or.inr (Or.inr (Or.inr (Or.inl ⟨by omega, by omega, hk⟩)))))))))))
  have u26 : ∀ k, k < 6 → V' 26 k = V 26 k := fun k hk => e 26 k (Or.inr (Or.inr (Or.inr (Or.inr (Or.inr (Or.inr (Or.inr (Or.inr (Or.inr (Or.inr (Or.inl ⟨by omega, by omega, hk⟩)))))))))))
  have u27 : ∀ k, k < 6 → V' 27 k = V 27 k := fun k hk => e 27 k (Or.inr (Or.inr (Or.inr (Or.inr (Or.inr (Or.inr (Or.inr (Or.inr (Or.inr (Or.inr (Or.inl ⟨by omega, by omega, hk⟩)))))))))))
  have u28 : ∀ k, k < 6 → V' 28 k = V 28 k := fun k hk => e 28 k (Or.inr (Or.inr (Or.inr (Or.inr (Or.inr (Or.inr (Or.inr (Or.inr (Or.inr (Or.inr (Or.inl ⟨by omega, by omega, hk⟩)))))))))))
  have u29 : ∀ k, k < 2 → V' 29 k = V 29 k := fun k hk => e 29 k (Or.inr (Or.inr (Or.inr (Or.inr (Or.inr (Or.inr (Or.inr (Or.inr (Or.inr (Or.inr (Or.inr (Or.inl ⟨rfl, hk⟩))))))))))))
  have u30 : ∀ k, k < 12 → V' 30 k = V 30 k := fun k hk => e 30 k (Or.inr (Or.inr (Or.inr (Or.inr (Or.inr (Or.inr (Or.inr (Or.inr (Or.inr (Or.inr (Or.inr (Or.inr (Or.inl ⟨by omega, by omega, hk⟩)))))))))))))
  have u31 : ∀ k, k < 12 → V' 31 k = V 31 k := fun k hk => e 31 k (Or.inr (Or.inr (Or.inr (Or.inr (Or.inr (Or.inr (Or.inr (Or.inr (Or.inr (Or.inr (Or.inr (Or.inr (Or.inl ⟨by omega, by omega, hk⟩)))))))))))))
  have u35 : ∀ k, k < 2 → V' 35 k = V 35 k := fun k hk => e 35 k (Or.inr (Or.inr (Or.inr (Or.inr (Or.inr (Or.inr (Or.inr (Or.inr (Or.inr (Or.inr (Or.inr (Or.inr (Or.inr (Or.inl ⟨Or.inl rfl, hk⟩))))))))))))))
  have u36 : ∀ k, k < 60 → V' 36 k = V 36 k := fun k hk => e 36 k (Or.inr (Or.inr (Or.inr (Or.inr (Or.inr (Or.inr (Or.inr (Or.inr (Or.inr (Or.inr (Or.inr (Or.inr (Or.inr (Or.inr (Or.inl ⟨by omega, hk⟩)))))))))))))))
  have u37 : ∀ k, k < 60 → V' 37 k = V 37 k := fun k hk => e 37 k (Or.inr (Or.inr (Or.inr (Or.inr (Or.inr (Or.inr (Or.inr (Or.inr (Or.inr (Or.inr (Or.inr (Or.inr (Or.inr (Or.inr (Or.inl ⟨by omega, hk⟩)))))))))))))))
  have u40 : ∀ k, k < 2 → V' 40 k = V 40 k := fun k hk => e 40 k (Or.inr (Or.inr (Or.inr (Or.inr (Or.inr (Or.inr (Or.inr (Or.inr (Or.inr (Or.inr (Or.inr (Or.inr (Or.inr (Or.inl ⟨Or.inr rfl, hk⟩))))))))))))))
  have u41 : ∀ k, k < 60 → V' 41 k = V 41 k := fun k hk => e 41 k (Or.inr (Or.inr (Or.inr (Or.inr (Or.inr (Or.inr (Or.inr (Or.inr (Or.inr (Or.inr (Or.inr (Or.inr (Or.inr (Or.inr (Or.inl ⟨by omega, hk⟩)))))))))))))))
  have u42 : ∀ k, k < 60 → V' 42 k = V 42 k := fun k hk => e 42 k (Or.inr (Or.inr (Or.inr (Or.inr (Or.inr (Or.inr (Or.inr (Or.inr (Or.inr (Or.inr (Or.inr (Or.inr (Or.inr (Or.inr (Or.inl ⟨by omega, hk⟩)))))))))))))))
  have u45 : ∀ k, k < 60 → V' 45 k = V 45 k := fun k hk => e 45 k (Or.inr (Or.inr (Or.inr (Or.inr (Or.inr (Or.inr (Or.inr (Or.inr (Or.inr (Or.inr (Or.inr (Or.inr (Or.inr (Or.inr (Or.inl ⟨by omega, hk⟩)))))))))))))))
  have u46 : ∀ k, k < 24 → V' 46 k = V 46 k := fun k hk => e 46 k (Or.inr (Or.inr (Or.inr (Or.inr (Or.inr (Or.inr (Or.inr (Or.inr (Or.inr (Or.inr (Or.inr (Or.inr (Or.inr (Or.inr (Or.inr ⟨rfl, hk⟩)))))))))))))))
  have u1 : ∀ k, k = 7 ∨ k = 9 ∨ k = 10 → V' 1 k = V 1 k := fun k hk => e 1 k (Or.inl ⟨rfl, hk⟩)
  obtain ⟨⟨ns, nj, cs, ea, eb, tt, nw, kd, bg, sp, mk, eg, np, pl, hr, nt, ly, wo, al, dm, nf, fw, fo, ⟨g1, ⟨a1, a2, a3, a4, a5⟩, g3⟩, ⟨w1, ⟨b1, b2⟩, w3⟩, ⟨f1, ⟨d1, d2, d3, d4⟩, f3⟩, ⟨x1, ⟨y1, y2, y3⟩, x3⟩⟩, ⟨⟨t, t1, t2, t3⟩, ⟨u, v1, v2, v3⟩⟩, ⟨⟨n, b, n1, n2, n3, n4⟩, ⟨m, m1, m2, m3, m4⟩, n5⟩⟩ := h
  have hns := g1.1
  have hnj := g1.2.1
  have hnw := w1.1
  have hnp := f1.1
  have hnt := f1.2.2.1
  have hnf := x1.2.2.1
  have tk : ∀ nn c t, (∀ k, k < 2 → V' c k = V c k) → (∀ k, k < 60 → V' (c + 1) k = V (c + 1) k) → (∀ k, k < 60 → V' (c + 2) k = V (c + 2) k) → wfT nn t → tC V c t → tC V' c t := fun nn c t e0 e1 e2 hw ht => by
    cases t with
    | none => show V' c 0 = 0; rw [e0 0 (by omega)]; exact ht
    | some l =>
      have hl := hw.1
      obtain ⟨q1, q2, q3⟩ := ht
      refine ⟨by rw [e0 0 (by omega)]; exact q1, by rw [e0 1 (by omega)]; exact q2, fun k hk => ?_⟩
      rw [e1 k (by omega), e2 k (by omega)]; exact q3 k hk
  clear e
  refine ⟨⟨ns, nj, cs, ea, eb, tt, nw, kd, bg, sp, mk, eg, np, pl, hr, nt, ly, wo, al, dm, nf, fw, fo, ⟨g1, ⟨?_, ?_, fun i hi => ?_, fun j hj => ?_, fun q hq => ?_⟩, gM_cg ⟨hns, hnj⟩ g3 (fun k _ => e2 k (by omega))⟩, ⟨w1, ⟨?_, fun w hw => ?_⟩, wM_cg hnw (fun w hw => (w1.2 w hw).2.2.1) w3 (fun k _ => e2 k (by omega))⟩, ⟨f1, ⟨?_, ?_, fun p hp => ?_, fun t ht => ?_⟩, fM_cg ⟨hnp, hnt⟩ f3 (fun k _ => e2 k (by omega))⟩, ⟨x1, ⟨?_, ?_, fun f hf => ?_⟩, dM_cg hnf x3 (fun k _ => e2 k (by omega))⟩⟩, ⟨⟨t, t1, tk 4 35 t u35 u36 u37 t1 t2, tM_cg t1 t3 (fun k _ _ => e2 k (by omega))⟩, ⟨u, v1, tk 3 40 u u40 u41 u42 v1 v2, tM_cg v1 v3 (fun k _ _ => e2 k (by omega))⟩⟩, ⟨⟨n, b, n1, ?_, ?_, fun k hk => ?_⟩, ⟨m, m1, ?_, ?_, fun k hk => ?_⟩, ?_⟩⟩
  · rw [u2 _ (by omega)]; exact a1
  · rw [u2 _ (by omega)]; exact a2
  · rw [u3 _ (by omega)]; exact a3 i hi
  · rw [u4 _ (by omega), u4 _ (by omega), u5 _ (by omega)]; exact a4 j hj
  · rw [u6 _ (by omega)]; exact a5 q hq
  · rw [u7]; exact b1
  · obtain ⟨q1, q2, q3, q4, q5⟩ := b2 w hw
    have hsp := (w1.2 w hw).2.2.1
    exact ⟨by rw [u8 _ (by omega)]; exact q1, by rw [u9 _ (by omega)]; exact q2, by rw [u10 _ (by omega)]; exact q3, by rw [u11 _ (by omega)]; exact q4, fun k hk => by rw [u13 _ _ (by omega) (by omega)]; exact q5 k hk⟩
  · rw [u23 _ (by omega)]; exact d1
  · rw [u23 _ (by omega)]; exact d2
  · rw [u24 _ (by omega), u25 _ (by omega)]; exact d3 p hp
  · rw [u26 _ (by omega), u27 _ (by omega), u28 _ (by omega)]; exact d4 t ht
  · rw [u29 _ (by omega)]; exact y1
  · rw [u29 _ (by omega)]; exact y2
  · rw [u30 _ (by omega), u31 _ (by omega)]; exact y3 f hf
  · rw [u1 _ (by omega)]; exact n2
  · rw [e2 _ (by omega)]; exact n3
  · rw [u45 _ (by omega), e2 _ (by omega)]; exact n4 k hk
  · rw [u1 _ (by omega)]; exact m2
  · rw [e2 _ (by omega)]; exact m3
  · rw [u46 _ (by omega), e2 _ (by omega)]; exact m4 k hk
  · rw [u1 _ (by omega), e2 _ (by omega)]; exact n5
theorem rT_01 {V : zI} {B : Nat → Int32} (h : rT V B) : (V 35 0 = 0 ∨ V 35 0 = 1) ∧ (V 40 0 = 0 ∨ V 40 0 = 1) := by
  obtain ⟨⟨t, t1, t2, t3⟩, ⟨u, u1, u2, u3⟩⟩ := h
  constructor
  · cases t with
    | none => exact Or.inl t2
    | some l => exact Or.inr t2.1
  · cases u with
    | none => exact Or.inl u2
    | some l => exact Or.inr u2.1
/-- who keeps all but the image -/
theorem sim_image {I J : zI} (h : rR I J) : zSim (fc_T_image I) (fm_image J) := by
  obtain ⟨hW, x1, x2, x3, x4, n, x5, x6, x7, x8⟩ := h
  obtain ⟨q1, q2⟩ := rT_01 hW.2.1
  obtain ⟨R, r1, r2, r3⟩ := tk_world I q1 q2
  obtain ⟨V', s1, s2, s3⟩ := m_copy_L 448 0 500 J (by omega) (by omega)
  have s1 : fm_copy J = some V' := s1
  unfold fc_T_image fm_image
  rw [r1, s1]
  simp only [Option.bind_some]
  have k1 : V' 0 2 = R 0 2 := by rw [s3 _ _ (by omega), r2 _ _ (by omega)]; exact x3
  rw [k1]
  refine zSim_i rfl rfl ⟨rW_cg hW (fun c k hc => ?_) (fun k hk => ?_), fun s hs => ?_, fun k hk => ?_, ?_, Or.inr ?_, n, x5, ?_, ?_, fun k hk => ?_⟩
  · unfold zwrel at hc
    rw [zup_o (by omega), r2 _ _ (by omega)]
  · rw [zup_o (by omega), s3 _ _ (by omega)]
  · obtain ⟨a1, a2, a3, a4, a5⟩ := x1 s hs
    rw [zup_o (by omega), zup_o (by omega), zup_o (by omega), zup_o (by omega), r2 _ _ (by omega), r2 _ _ (by omega), s3 _ _ (by omega), s3 _ _ (by omega)]
    exact ⟨a1, a2, a3, a4, fun k hk => by rw [zup_o (by omega), zup_o (by omega), r2 _ _ (by omega), s3 _ _ (by omega)]; exact a5 k hk⟩
  · rw [zup_o (by omega), zup_o (by omega), r2 _ _ (by omega), s3 _ _ (by omega)]; exact x2 k hk
  · rw [zup_y, zup_y]
  · refine rW_cg2 hW (fun c k hc => ?_) (fun k hk => ?_)
    · show zup R 0 2 (R 0 2 + 1) (c + 46) k = I c k
      rw [zup_o (by omega)]; exact r3 c k hc
    · rw [zup_o (by omega)]; exact s2 k (by omega) hk
  · rw [zup_o (by omega), r2 _ _ (by omega)]; exact x6
  · rw [zup_o (by omega), s3 _ _ (by omega)]; exact x7
  · rw [zup_o (by omega), zup_o (by omega), r2 _ _ (by omega), s3 _ _ (by omega)]; exact x8 k hk
theorem sim_restore {I J : zI} (h : rR I J) : zSim (fc_T_restore I) (fm_restore J) := by
  unfold fc_T_restore fm_restore
  rw [h.2.2.2.1]
  by_cases h0 : I 0 2 = 0
  · simp only [h0, if_true]
    exact zSim_e (zsim_err h (k := 2) (by omega) (by omega) rfl (by decide))
  · simp only [h0, if_false]
    obtain ⟨hW, x1, x2, x3, x4, n, x5, x6, x7, x8⟩ := h
    have hK : rW (zsh I) (J 2) := by
      rcases x4 with x4 | x4
      · exact absurd x4 h0
      · exact x4
    obtain ⟨q1, q2⟩ := rT_01 hK.2.1
    obtain ⟨R, r1, r2, r3⟩ := tk_world_2 I q1 q2
    obtain ⟨V', s1, s2, s3⟩ := m_copy_L_2 448 0 500 J (by omega) (by omega)
    have s1 : fm_copy_2 J = some V' := s1
    rw [r1, s1]
    simp only [Option.bind_some, zcl0]
    have hW2 : rW R (V' 1) := rW_cg2 hK (fun c k hc => r3 c k hc) (fun k hk => s2 k (by omega) hk)
    have k2 : R 2 0 = V' 1 0 := by
      obtain ⟨⟨ns, nj, cs, ea, eb, tt, nw, kd, bg, sp, mk, eg, np, pl, hr, nt, ly, wo, al, dm, nf, fw, fo, ⟨g1, g2, g3⟩, -⟩, -⟩ := hW2
      rw [g2.1, g3.1]
    refine zSim_i rfl (by rw [k2]) ⟨hW2, rX_cg ⟨x1, x2, x3, x4, n, x5, x6, x7, x8⟩ (fun c k hc => ?_) (fun c k hc => ?_)⟩
    · unfold zxrel at hc
      exact r2 c k (by omega)
    · unfold mxrel at hc
      exact s3 c k (by omega)
