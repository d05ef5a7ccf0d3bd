/-! sheets -/
def zshC (I J : zI) (s : Nat) : Prop := J 12 s = I 94 s ∧ J 13 s = I 95 s ∧ (I 94 s = 0 ∨ I 94 s = 8 ∨ I 94 s = 16 ∨ I 94 s = 32) ∧ (∃ n, n ≤ 24 ∧ I 95 s = nI n) ∧ ∀ k, k < 24 → rNum (I (97 + s) k) (J 14 (24 * s + k))
theorem rR_S {I J I' J' : zI} (h : rR I J) (hs : ∀ s, s < 4 → zshC I' J' s) (e : ∀ c k, (zwrel c k ∨ zxrel c k) → c ≠ 94 → c ≠ 95 → ¬ (97 ≤ c ∧ c ≤ 100) → I' c k = I c k) (e1 : ∀ k, k < 448 → J' 1 k = J 1 k) (e2 : ∀ c k, mxrel c k → c ≠ 12 → c ≠ 13 → c ≠ 14 → J' c k = J c k) : rR I' J' := by
  obtain ⟨hW, h1, h2, h3, h4, n, h5, h6, h7, h8⟩ := h
  refine ⟨rW_cg hW (fun c k hc => e c k (Or.inl hc) (by unfold zwrel at hc; omega) (by unfold zwrel at hc; omega) (by unfold zwrel at hc; omega)) e1, hs, fun k hk => ?_, ?_, ?_, n, h5, ?_, ?_, fun k hk => ?_⟩
  · rw [e2 3 k (Or.inr (Or.inr (Or.inl rfl))) (by omega) (by omega) (by omega), e 93 k (Or.inr (Or.inr (Or.inl (by omega)))) (by omega) (by omega) (by omega)]; exact h2 k hk
  · rw [e2 0 2 (Or.inl ⟨rfl, Or.inl rfl⟩) (by omega) (by omega) (by omega), e 0 2 (Or.inr (Or.inl ⟨rfl, rfl⟩)) (by omega) (by omega) (by omega)]; exact h3
  · rw [e 0 2 (Or.inr (Or.inl ⟨rfl, rfl⟩)) (by omega) (by omega) (by omega)]
    rcases h4 with h4 | h4
    · exact Or.inl h4
    · refine Or.inr (rW_cg h4 (fun c k hc => ?_) (fun k _ => e2 2 k (Or.inr (Or.inl rfl)) (by omega) (by omega) (by omega)))
      unfold zwrel at hc
      exact e (c + 46) k (Or.inr (Or.inr (Or.inl (by omega)))) (by omega) (by omega) (by omega)
  · rw [e 184 1 (Or.inr (Or.inr (Or.inr (Or.inr (Or.inl ⟨rfl, rfl⟩))))) (by omega) (by omega) (by omega)]; exact h6
  · rw [e2 0 25 (Or.inl ⟨rfl, Or.inr rfl⟩) (by omega) (by omega) (by omega)]; exact h7
  · rw [e2 11 k (Or.inr (Or.inr (Or.inr (by omega)))) (by omega) (by omega) (by omega), e 185 k (Or.inr (Or.inr (Or.inr (Or.inr (Or.inr rfl))))) (by omega) (by omega) (by omega)]; exact h8 k hk
theorem c_isSheet (I : zI) (x : Int32) : fc_T_isSheet I x = some (if 0 ≤ x ∧ x ≤ 3 then 1 else 0) := by
  unfold fc_T_isSheet
  rw [cwi]
  simp only [Option.bind_some, zbb_if, z_guard, if_true]
theorem m_isSheet (I : zI) (x : Int32) : fm_isSheet I x = some (if 0 ≤ x ∧ x ≤ 3 then 1 else 0) := by
  unfold fm_isSheet
  rw [mwi]
  simp only [Option.bind_some, zbb_if, z_guard, if_true]
theorem m_sheet_L {s : Nat} (hs : s < 4) : ∀ (m k fuel : Nat) (V : zI), k + m = 24 → m < fuel → ∃ V', fm_sheet_L93 fuel (nI s) (nI k) V = some (1, V') ∧ (∀ i, k ≤ i → i < 24 → V' 14 (24 * s + i) = 0) ∧ ∀ c j, ¬ (c = 14 ∧ 24 * s + k ≤ j ∧ j < 24 * s + 24) → V' c j = V c j
  | 0, k, fuel, V, hk, hf => by
    obtain ⟨g, rfl⟩ : ∃ g, fuel = g + 1 := ⟨fuel - 1, by omega⟩
    rw [fm_sheet_L93, if_pos (show (24 : Int32) ≤ nI k from nI_le (a := 24) (by omega) (by omega))]
    exact ⟨V, rfl, fun i h1 h2 => by omega, fun _ _ _ => rfl⟩
  | m + 1, k, fuel, V, hk, hf => by
    obtain ⟨g, rfl⟩ : ∃ g, fuel = g + 1 := ⟨fuel - 1, by omega⟩
    rw [fm_sheet_L93, if_neg (show ¬ (24 : Int32) ≤ nI k from nI_ge (b := 24) (by omega) (by omega)), k_24, zl_mul, zl_add, zl_b (by omega), show decide (24 * s + k < 96) = true from decide_eq_true (by omega), zl_cl _ (by omega), nI_1]
    simp only [z_guard, if_true]
    obtain ⟨V', r1, r2, r3⟩ := m_sheet_L hs m (k + 1) g (zup V 14 (24 * s + k) 0) (by omega) (by omega)
    refine ⟨V', r1, fun i h1 h2 => ?_, fun c j hc => ?_⟩
    · by_cases hi : i = k
      · subst hi; rw [r3 _ _ (by omega), zup_y]
      · exact r2 i (by omega) h2
    · rw [r3 c j (by omega), zup_o (by omega)]
theorem sim_sheet68 {I J : zI} (h : rR I J) {s n : Nat} {v : Int32} (hs : s < 4) (hn : n ≤ 24) (hv : v = 0 ∨ v = 8 ∨ v = 16 ∨ v = 32) : ∃ J', fm_sheet_L93 100 (nI s) 0 (zup (zup J 12 s v) 13 s (nI n)) = some (1, J') ∧ rR (zfill (zup (zup I 94 s v) 95 s (nI n)) (97 + s) 24 0) J' := by
  obtain ⟨J', r1, r2, r3⟩ := m_sheet_L hs 24 0 100 (zup (zup J 12 s v) 13 s (nI n)) (by omega) (by omega)
  refine ⟨J', r1, ?_⟩
  have hx := h.2.1
  have zf : ∀ c k, c ≠ 97 + s → zfill (zup (zup I 94 s v) 95 s (nI n)) (97 + s) 24 0 c k = zup (zup I 94 s v) 95 s (nI n) c k := fun c k hc => by
    unfold zfill zrow
    rw [if_neg hc]
  have zg : ∀ k, k < 24 → zfill (zup (zup I 94 s v) 95 s (nI n)) (97 + s) 24 0 (97 + s) k = 0 := fun k hk => by
    unfold zfill zrow
    rw [if_pos rfl, if_pos hk]
  refine rR_S h (fun q hq => ?_) (fun c k hc h1 h2 h3 => ?_) (fun k hk => ?_) (fun c k hc h1 h2 h3 => ?_)
  · obtain ⟨b1, b2, b3, b4, b5⟩ := hx q hq
    by_cases hqs : q = s
    · subst hqs
      refine ⟨?_, ?_, ?_, ⟨n, hn, ?_⟩, fun k hk => ?_⟩
      · rw [r3 _ _ (by omega), zf _ _ (by omega), zup_o (by omega), zup_y, zup_o (by omega), zup_y]
      · rw [r3 _ _ (by omega), zf _ _ (by omega), zup_y, zup_y]
      · rw [zf _ _ (by omega), zup_o (by omega), zup_y]; exact hv
      · rw [zf _ _ (by omega), zup_y]
      · rw [zg k hk, r2 k (by omega) hk]; exact Or.inl rfl
    · refine ⟨?_, ?_, ?_, ?_, fun k hk => ?_⟩
      · rw [r3 _ _ (by omega), zf _ _ (by omega), zup_o (by omega), zup_o (by omega), zup_o (by omega), zup_o (by omega)]; exact b1
      · rw [r3 _ _ (by omega), zf _ _ (by omega), zup_o (by omega), zup_o (by omega), zup_o (by omega), zup_o (by omega)]; exact b2
      · rw [zf _ _ (by omega), zup_o (by omega), zup_o (by omega)]; exact b3
      · rw [zf _ _ (by omega), zup_o (by omega), zup_o (by omega)]; exact b4
      · rw [zf _ _ (by omega), zup_o (by omega), zup_o (by omega), r3 _ _ (by omega), zup_o (by omega), zup_o (by omega)]; exact b5 k hk
  · rw [zf _ _ (by unfold zwrel zxrel at hc; omega), zup_o (by omega), zup_o (by omega)]
  · rw [r3 _ _ (by omega), zup_o (by omega), zup_o (by omega)]
  · rw [r3 _ _ (by omega), zup_o (by omega), zup_o (by omega)]
theorem sim_sheet {I J : zI} (h : rR I J) (a b c : Int32) : zSim (fc_T_sheet I a b c) (fm_sheet J a b c) := by
  have key : ∀ b, (b = 0 ∨ b = 8 ∨ b = 16 ∨ b = 32) → zSim (fc_T_sheet_J27 I a b c 1) ((if 0 ≤ a ∧ a ≤ 3 then some 1 else some 0).bind fun r1 : Int32 => if r1 = 0 then (fm_finding J (-1000001)).bind fun r4 => some (r4.1, r4.2) else fm_sheet_J36 J a b c) := by
    intro b hb
    unfold fc_T_sheet_J27
    rw [c_isSheet]
    by_cases ha : 0 ≤ a ∧ a ≤ 3
    · simp only [ha, and_self, if_true, Option.bind_some, z10, if_false]
      obtain ⟨s, -, hs, rfl⟩ := zl_nat (a := 0) (b := 3) ha (by omega) (by omega)
      have zbs : zb (nI s) 4 = true := by rw [zl_b (by omega)]; exact decide_eq_true (by omega)
      have cls : (nI s).toNatClampNeg = s := zl_cl s (by omega)
      unfold fm_sheet_J36 fc_T_sheet_J61 fm_sheet_J51 fm_sheet_J68
      simp only [zbs, cls, z_guard, if_true]
      by_cases hb0 : b = 0
      · simp only [hb0, if_true]
        obtain ⟨J', r1, r2⟩ := sim_sheet68 h (s := s) (n := 0) (v := 0) (by omega) (by omega) (Or.inl rfl)
        exact zSim_i rfl r1 r2
      · simp only [hb0, if_false]
        by_cases hc : 0 ≤ c
        · simp only [hc, if_true]
          by_cases hc2 : c ≤ 24
          · simp only [hc2, if_true]
            obtain ⟨n, -, hn, rfl⟩ := zl_nat (a := 0) (b := 24) ⟨hc, hc2⟩ (by omega) (by omega)
            obtain ⟨J', r1, r2⟩ := sim_sheet68 h (s := s) (n := n) (v := b) (by omega) (by omega) hb
            exact zSim_i rfl r1 r2
          · simp only [hc2, if_false]
            exact zSim_e (zsim_err h (k := 1) (by omega) (by omega) rfl (by decide))
        · simp only [hc, if_false]
          exact zSim_e (zsim_err h (k := 3) (by omega) (by omega) rfl (by decide))
    · simp only [ha, if_false, if_true, Option.bind_some]
      exact zSim_e (zsim_err h (k := 1) (by omega) (by omega) rfl (by decide))
  have bad : ∀ b, ¬ (b = 0 ∨ b = 8 ∨ b = 16 ∨ b = 32) → zSim (fc_T_sheet_J27 I a b c 0) ((fm_finding J (-1000001)).bind fun r4 => some (r4.1, r4.2)) := by
    intro b hb
    unfold fc_T_sheet_J27
    rw [c_isSheet]
    by_cases ha : 0 ≤ a ∧ a ≤ 3
    · simp only [ha, and_self, if_true, Option.bind_some, z10, if_false]
      exact zSim_e (zsim_err h (k := 1) (by omega) (by omega) rfl (by decide))
    · simp only [ha, if_false, if_true, Option.bind_some]
      exact zSim_e (zsim_err h (k := 1) (by omega) (by omega) rfl (by decide))
  unfold fc_T_sheet fm_sheet fc_T_sheet_J22
  rw [m_isSheet]
  have e8 : ¬ (8 : Int32) = 0 := by decide
  have e16 : ¬ (16 : Int32) = 0 := by decide
  have e32 : ¬ (32 : Int32) = 0 := by decide
  have f16 : ¬ (16 : Int32) = 8 := by decide
  have f32 : ¬ (32 : Int32) = 8 := by decide
  have g32 : ¬ (32 : Int32) = 16 := by decide
  have key2 := key b
  by_cases b0 : b = 0
  · subst b0
    simp only [if_true]
    have := key2 (Or.inl rfl)
    by_cases ha : 0 ≤ a ∧ a ≤ 3
    · simp only [ha, and_self, if_true, Option.bind_some] at this ⊢; exact this
    · simp only [ha, if_false, Option.bind_some] at this ⊢; exact this
  · by_cases b8 : b = 8
    · subst b8
      simp only [e8, if_true, if_false]
      have := key2 (Or.inr (Or.inl rfl))
      by_cases ha : 0 ≤ a ∧ a ≤ 3
      · simp only [ha, and_self, if_true, Option.bind_some] at this ⊢; exact this
      · simp only [ha, if_false, Option.bind_some] at this ⊢; exact this
    · by_cases b16 : b = 16
      · subst b16
        simp only [e16, f16, if_true, if_false]
        have := key2 (Or.inr (Or.inr (Or.inl rfl)))
        by_cases ha : 0 ≤ a ∧ a ≤ 3
        · simp only [ha, and_self, if_true, Option.bind_some] at this ⊢; exact this
        · simp only [ha, if_false, Option.bind_some] at this ⊢; exact this
      · by_cases b32 : b = 32
        · subst b32
          simp only [e32, f32, g32, if_true, if_false]
          have := key2 (Or.inr (Or.inr (Or.inr rfl)))
          by_cases ha : 0 ≤ a ∧ a ≤ 3
          · simp only [ha, and_self, if_true, Option.bind_some] at this ⊢; exact this
          · simp only [ha, if_false, Option.bind_some] at this ⊢; exact this
        · simp only [b0, b8, b16, b32, if_false]
          have := bad b (by rintro (h | h | h | h) <;> contradiction)
          by_cases ha : 0 ≤ a ∧ a ≤ 3
          · simp only [ha, and_self, if_true, Option.bind_some, z10, if_false]; exact this
          · simp only [ha, if_false, Option.bind_some, if_true]; exact this
