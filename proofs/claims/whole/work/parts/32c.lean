/-! facts that are so -/
def zso (od : Nat → Option Nat) (fw fo : Nat → Nat) (x : Nat) : Nat → Bool
  | 0 => true
  | n + 1 => zso od fw fo x n && (match od (fw n) with
    | none => false
    | some o => zpc (o &&& x) % 2 == fo n)
theorem zso_f {od : Nat → Option Nat} {fw fo : Nat → Nat} {x k : Nat} (h : zso od fw fo x k = false) : ∀ m, zso od fw fo x (k + m) = false
  | 0 => h
  | m + 1 => by
    show (zso od fw fo x (k + m) && _) = false
    rw [zso_f h m]; rfl
def zov (o : Option Nat) : Int32 := match o with
  | none => -1
  | some a => nI a
theorem c_turnsOver (I : zI) {o x : Nat} (ho : o < 65536) : fc_Doubts_turnsOver I (nI o) (nI x) = some (nI (zpc (o &&& x) % 2)) := by
  have hb : o &&& x < 65536 := Nat.lt_of_le_of_lt Nat.and_le_left ho
  unfold fc_Doubts_turnsOver
  rw [zl_and, c_bitCount I hb, zF_pc hb, Option.bind_some, k_1, zl_and, Nat.and_one_is_mod]
theorem c_areSo_L {I : zI} {nf nw x : Nat} {od : Nat → Option Nat} {fw fo : Nat → Nat} (hnf : nf ≤ 12) (hnw : nw ≤ 10) (h1 : I 29 1 = nI nf) (h2 : ∀ f, f < nf → fw f < nw ∧ fo f < 2 ∧ I 30 f = nI (fw f) ∧ I 31 f = nI (fo f)) (h3 : ∀ w, w < nw → I 34 w = zov (od w) ∧ ∀ o, od w = some o → o < 65536) : ∀ (m k fuel : Nat), k + m = nf → m < fuel → zso od fw fo x k = true → fc_Doubts_areSo_L2 I fuel (nI x) (nI k) = some (if zso od fw fo x nf then 1 else 0) := by
  intro m
  induction m with
  | zero =>
    intro k fuel hk hf hs
    obtain ⟨f, rfl⟩ : ∃ f, fuel = f + 1 := ⟨fuel - 1, by omega⟩
    rw [fc_Doubts_areSo_L2, h1, if_pos (nI_le (by omega) (by omega)), show nf = k by omega, if_pos hs]
  | succ m ih =>
    intro k fuel hk hf hs
    obtain ⟨f, rfl⟩ : ∃ f, fuel = f + 1 := ⟨fuel - 1, by omega⟩
    obtain ⟨a1, a2, a3, a4⟩ := h2 k (by omega)
    obtain ⟨b1, b2⟩ := h3 (fw k) a1
    rw [fc_Doubts_areSo_L2, h1, if_neg (nI_ge (by omega) (by omega)), zl_b (by omega), show decide (k < 12) = true from decide_eq_true (by omega), zl_cl k (by omega), a3, zl_b (by omega), show decide (fw k < 10) = true from decide_eq_true (by omega), zl_cl (fw k) (by omega), b1, a4]
    simp only [z_guard, if_true, nI_1]
    have hstep : zso od fw fo x (k + 1) = (match od (fw k) with
      | none => false
      | some o => zpc (o &&& x) % 2 == fo k) := by
      rw [zso, hs, Bool.true_and]
    have hend : zso od fw fo x (k + 1) = false → zso od fw fo x nf = false := fun e => by
      have := zso_f e m
      rw [show k + 1 + m = nf by omega] at this
      exact this
    cases e : od (fw k) with
    | none =>
      rw [e] at hstep
      rw [if_pos (show zov none < 0 by decide), hend hstep]; rfl
    | some o =>
      rw [e] at hstep
      have ho := b2 o e
      rw [if_neg (show ¬ zov (some o) < 0 from nI_pos (by omega)), show zov (some o) = nI o from rfl, c_turnsOver I ho, Option.bind_some]
      have ee := nI_eq (a := zpc (o &&& x) % 2) (b := fo k) (by omega) (by omega)
      by_cases hq : zpc (o &&& x) % 2 = fo k
      · rw [if_pos (ee.mpr hq)]
        exact ih (k + 1) f (by omega) (by omega) (by rw [hstep]; exact beq_iff_eq.mpr hq)
      · rw [if_neg (fun q => hq (ee.mp q)), hend (by rw [hstep]; exact beq_eq_false_iff_ne.mpr hq)]; rfl
theorem m_agrees_L {J : zI} {nf nw x : Nat} {od : Nat → Option Nat} {fw fo : Nat → Nat} (hnf : nf ≤ 12) (hnw : nw ≤ 10) (h1 : J 1 5 = nI nf) (h2 : ∀ f, f < nf → fw f < nw ∧ fo f < 2 ∧ J 1 (216 + 2 * f) = nI (fw f) ∧ J 1 (216 + 2 * f + 1) = nI (fo f)) (h3 : ∀ w, w < nw → fm_oddOf J (nI w) = some (zov (od w)) ∧ ∀ o, od w = some o → o < 65536) : ∀ (m k fuel : Nat), k + m = nf → m < fuel → fm_agrees_L4 J fuel (nI x) (if zso od fw fo x k then 1 else 0) (nI k) = some (if zso od fw fo x nf then 1 else 0) := by
  intro m
  induction m with
  | zero =>
    intro k fuel hk hf
    obtain ⟨f, rfl⟩ : ∃ f, fuel = f + 1 := ⟨fuel - 1, by omega⟩
    rw [fm_agrees_L4, show (5 : Int32).toNatClampNeg = 5 from by decide, h1, if_pos (nI_le (by omega) (by omega)), show nf = k by omega]
    cases zso od fw fo x k <;> rfl
  | succ m ih =>
    intro k fuel hk hf
    obtain ⟨f, rfl⟩ : ∃ f, fuel = f + 1 := ⟨fuel - 1, by omega⟩
    obtain ⟨a1, a2, a3, a4⟩ := h2 k (by omega)
    obtain ⟨b1, b2⟩ := h3 (fw k) a1
    have i1 := ih (k + 1) f (by omega) (by omega)
    rw [zso] at i1
    rw [fm_agrees_L4, show (5 : Int32).toNatClampNeg = 5 from by decide, h1, if_neg (nI_ge (by omega) (by omega)), k_216, k_2, zl_mul, zl_add, zl_b (by omega), show decide (216 + 2 * k < 448) = true from decide_eq_true (by omega), zl_cl _ (by omega), a3, b1, nI_1, nI_1]
    simp only [z_guard, if_true, Option.bind_some]
    cases hs : zso od fw fo x k with
    | false =>
      rw [hs] at i1
      exact i1
    | true =>
      rw [hs] at i1
      rw [if_neg (show ¬ (if true = true then (1 : Int32) else 0) = 0 by decide)]
      cases e : od (fw k) with
      | none =>
        rw [e] at i1
        rw [if_pos (show zov none < 0 by decide)]
        exact i1
      | some o =>
        rw [e] at i1
        have ho := b2 o e
        have hb : o &&& x < 65536 := Nat.lt_of_le_of_lt Nat.and_le_left ho
        have hbits : fm_bits J (nI (o &&& x)) = some (nI (zpc (o &&& x))) := by
          have h16 := zpc_le16 (o &&& x)
          have := m_bits_L J 100 0 (o &&& x) hb (by omega)
          rw [Nat.zero_add] at this
          exact this
        have h16 := zpc_le16 (o &&& x)
        rw [if_neg (show ¬ zov (some o) < 0 from nI_pos (by omega)), show zov (some o) = nI o from rfl, zl_and, hbits, Option.bind_some, zl_b (by omega), show decide (216 + 2 * k + 1 < 448) = true from decide_eq_true (by omega), zl_cl _ (by omega), a4, zl_mod _ _ (by omega) (by omega) (by omega)]
        have ee := nI_eq (a := zpc (o &&& x) % 2) (b := fo k) (by omega) (by omega)
        simp only [if_true]
        by_cases hq : zpc (o &&& x) % 2 = fo k
        · rw [if_pos (ee.mpr hq)]
          simp only [beq_iff_eq.mpr hq, Bool.and_true, if_true] at i1
          exact i1
        · rw [if_neg (fun q => hq (ee.mp q))]
          simp only [beq_eq_false_iff_ne.mpr hq, Bool.and_false, Bool.false_eq_true, if_false] at i1
          exact i1
