/-! a way counted in -/
theorem zsh_n : ∀ j, j < 16 → ((nI j &&& 31).toBitVec.smod 32).toNat = j := by decide +kernel
theorem zshr_n {x j : Nat} (hx : x < 65536) (hj : j < 16) : (nI x >>> (nI j &&& 31)) &&& 1 = nI (x / 2 ^ j % 2) := by
  rw [pk_shrN (by omega) _ j (zsh_n j hj), k_1, zl_and, Nat.and_one_is_mod]
def zev (od : Option Nat) (x : Nat) : Nat := match od with
  | none => 0
  | some o => 1 - zpc (o &&& x) % 2
theorem c_count2_L {nw x : Nat} {od : Nat → Option Nat} (hnw : nw ≤ 10) : ∀ (m k fuel : Nat) (V : zI), k + m = nw → m < fuel → V 7 0 = nI nw → (∀ w, w < nw → V 34 w = zov (od w) ∧ ∀ o, od w = some o → o < 65536) → ∃ V', fc_Doubts_countIn_L45 fuel (nI x) (nI k) V = some V' ∧ (∀ w, k ≤ w → w < nw → V' 33 w = V 33 w + nI (zev (od w) x)) ∧ ∀ c j, ¬ (c = 33 ∧ k ≤ j ∧ j < nw) → V' c j = V c j
  | 0, k, fuel, V, hk, hf, h7, h3 => by
    obtain ⟨f, rfl⟩ : ∃ f, fuel = f + 1 := ⟨fuel - 1, by omega⟩
    rw [fc_Doubts_countIn_L45, h7, if_pos (nI_le (by omega) (by omega))]
    exact ⟨V, rfl, fun w h1 h2 => by omega, fun _ _ _ => rfl⟩
  | m + 1, k, fuel, V, hk, hf, h7, h3 => by
    obtain ⟨f, rfl⟩ : ∃ f, fuel = f + 1 := ⟨fuel - 1, by omega⟩
    obtain ⟨b1, b2⟩ := h3 k (by omega)
    rw [fc_Doubts_countIn_L45, h7, if_neg (nI_ge (by omega) (by omega)), zl_b (by omega), show decide (k < 10) = true from decide_eq_true (by omega), zl_cl k (by omega), b1, nI_1]
    simp only [z_guard, if_true]
    cases e : od k with
    | none =>
      rw [if_pos (show zov none < 0 by decide)]
      obtain ⟨V', r1, r2, r3⟩ := c_count2_L hnw m (k + 1) f V (by omega) (by omega) h7 h3
      refine ⟨V', r1, fun w h1 h2 => ?_, fun c j hc => r3 c j (by omega)⟩
      by_cases hwk : w = k
      · subst hwk
        rw [r3 _ _ (by omega), e]
        exact (Int32.add_zero _).symm
      · exact r2 w (by omega) h2
    | some o =>
      have ho := b2 o e
      have hpar : zpc (o &&& x) % 2 < 2 := Nat.mod_lt _ (by omega)
      rw [if_neg (show ¬ zov (some o) < 0 from nI_pos (by omega)), show zov (some o) = nI o from rfl, c_turnsOver V ho, Option.bind_some, k_1, zl_sub _ _ (by omega)]
      obtain ⟨V', r1, r2, r3⟩ := c_count2_L (x := x) hnw m (k + 1) f (zup V 33 k (V 33 k + nI (1 - zpc (o &&& x) % 2))) (by omega) (by omega) (by (unfold zup; repeat (first | rw [if_neg (by omega)] | rw [if_pos (by omega)])); exact h7) (fun w hw => by (unfold zup; repeat (first | rw [if_neg (by omega)] | rw [if_pos (by omega)])); exact h3 w hw)
      refine ⟨V', r1, fun w h1 h2 => ?_, fun c j hc => by rw [r3 c j (by omega), zup_o (by omega)]⟩
      by_cases hwk : w = k
      · subst hwk
        rw [r3 _ _ (by omega), zup_y, e]; rfl
      · rw [r2 w (by omega) h2, zup_o (by omega)]
theorem c_count1_L {nj nw x : Nat} {od : Nat → Option Nat} (hnj : nj ≤ 16) (hnw : nw ≤ 10) (hx : x < 65536) : ∀ (m k fuel : Nat) (V : zI), k + m = nj → m < fuel → V 2 2 = nI nj → V 7 0 = nI nw → (∀ w, w < nw → V 34 w = zov (od w) ∧ ∀ o, od w = some o → o < 65536) → ∃ V', fc_Doubts_countIn_L12 fuel (nI x) (nI k) V = some V' ∧ (∀ j, k ≤ j → j < nj → V' 32 j = V 32 j + nI (x / 2 ^ j % 2)) ∧ (∀ w, w < nw → V' 33 w = V 33 w + nI (zev (od w) x)) ∧ ∀ c j, c ≠ 33 → ¬ (c = 32 ∧ k ≤ j ∧ j < nj) → V' c j = V c j
  | 0, k, fuel, V, hk, hf, h2, h7, h3 => by
    obtain ⟨f, rfl⟩ : ∃ f, fuel = f + 1 := ⟨fuel - 1, by omega⟩
    rw [fc_Doubts_countIn_L12, h2, if_pos (nI_le (by omega) (by omega))]
    obtain ⟨V', r1, r2, r3⟩ := c_count2_L (x := x) (od := od) hnw nw 0 100 V (by omega) (by omega) h7 h3
    exact ⟨V', r1, fun w h1 h2 => by omega, fun w hw => r2 w (by omega) hw, fun c j h1 h2 => r3 c j (by omega)⟩
  | m + 1, k, fuel, V, hk, hf, h2, h7, h3 => by
    obtain ⟨f, rfl⟩ : ∃ f, fuel = f + 1 := ⟨fuel - 1, by omega⟩
    rw [fc_Doubts_countIn_L12, h2, if_neg (nI_ge (by omega) (by omega)), zl_b (by omega), show decide (k < 16) = true from decide_eq_true (by omega), zl_cl k (by omega), zshr_n hx (by omega), nI_1]
    simp only [z_guard, if_true]
    obtain ⟨V', r1, r2, r3, r4⟩ := c_count1_L (od := od) hnj hnw hx m (k + 1) f (zup V 32 k (V 32 k + nI (x / 2 ^ k % 2))) (by omega) (by omega) (by (unfold zup; repeat (first | rw [if_neg (by omega)] | rw [if_pos (by omega)])); exact h2) (by (unfold zup; repeat (first | rw [if_neg (by omega)] | rw [if_pos (by omega)])); exact h7) (fun w hw => by (unfold zup; repeat (first | rw [if_neg (by omega)] | rw [if_pos (by omega)])); exact h3 w hw)
    refine ⟨V', r1, fun j h1 h2 => ?_, fun w hw => by rw [r3 w hw, zup_o (by omega)], fun c j h1 h2 => by rw [r4 c j h1 (by omega), zup_o (by omega)]⟩
    by_cases hjk : j = k
    · subst hjk
      rw [r4 _ _ (by omega) (by omega), zup_y]
    · rw [r2 j (by omega) h2, zup_o (by omega)]
