/-! texts: numbers, names, what stands in brackets -/
def zdig (x : Option Nat) : Bool := match x with
  | none => false
  | some c => decide (48 ≤ c) && decide (c ≤ 57)
theorem zdig_i {x : Option Nat} (hx : ∀ c, x = some c → c < 256) : ((48 : Int32) ≤ zov x ∧ zov x ≤ (57 : Int32)) ↔ zdig x = true := by
  cases x with
  | none => exact ⟨fun e => by revert e; decide, fun e => by cases e⟩
  | some c =>
    have hc := hx c rfl
    have e1 := nI_leI (a := 48) (b := c) (by omega) (by omega)
    have e2 := nI_leI (a := c) (b := 57) (by omega) (by omega)
    show (nI 48 ≤ nI c ∧ nI c ≤ nI 57) ↔ _
    rw [e1, e2]
    show _ ↔ (decide (48 ≤ c) && decide (c ≤ 57)) = true
    rw [Bool.and_eq_true, decide_eq_true_eq, decide_eq_true_eq]
theorem c_dig (I : zI) {x : Option Nat} (hx : ∀ c, x = some c → c < 256) : fc_Reader_isDigit I (zov x) = some (if zdig x then 1 else 0) := by
  unfold fc_Reader_isDigit
  rw [cwi, Option.bind_some, zbb_if]
  simp only [z_guard, if_true, zdig_i hx]
theorem m_dig (I : zI) {x : Option Nat} (hx : ∀ c, x = some c → c < 256) : fm_within I (zov x) (48 : Int32) (57 : Int32) = some (if zdig x then 1 else 0) := by
  rw [mwi]
  simp only [zdig_i hx]
theorem zpn_256 {u n o p : Nat} {b : Nat → Nat} {l : List (Nat × Nat)} {V U : zI} (h : zgd u n o b p l V U) : ∀ c, zpn b n p = some c → c < 256 := fun c e => by
  obtain ⟨hp, hb⟩ := zpn_s e
  rw [← hb]
  exact h.1.2.2.2.2.2 p hp
theorem znum_L {u n o : Nat} {b : Nat → Nat} (rc : zI → Option zI) : ∀ (m i p v f F : Nat) (l : List (Nat × Nat)) (V U : zI), i + m = 4 → m < f → m < F → zgd u n o b p l V U → l.length < p → v < 10 ^ i → ∃ V' U' p' v', fc_Reader_readNumber_L4 f (nI v) (nI i) V = some (1, V') ∧ fm_one_L131 rc F (nI v) (nI i) U = some U' ∧ p ≤ p' ∧ zgd u n o b p' ((0, v') :: l) V' U' ∧ v' ≤ 9999 ∧ zfr V V' ∧ mfr U U' := by
  intro m
  induction m with
  | zero =>
    intro i p v f F l V U hi hf hF h hl hv
    obtain ⟨f, rfl⟩ : ∃ g, f = g + 1 := ⟨f - 1, by omega⟩
    obtain ⟨F, rfl⟩ : ∃ g, F = g + 1 := ⟨F - 1, by omega⟩
    have hi4 : i = 4 := by omega
    subst hi4
    obtain ⟨V', U', w1, w2, w3, w4, w5⟩ := zgd_write h hl (0, v)
    have w1 : fc_Reader_write V (0 : Int32) (nI v) = some V' := w1
    have w2 : fm_codes U (nI v) = some U' := w2
    refine ⟨V', U', p, v, ?_, ?_, Nat.le_refl _, w3, by omega, w4, w5⟩
    · rw [fc_Reader_readNumber_L4, if_pos (show (4 : Int32) ≤ nI 4 by decide), w1]; rfl
    · rw [fm_one_L131, if_pos (show (4 : Int32) ≤ nI 4 by decide), w2]; rfl
  | succ m ih =>
    intro i p v f F l V U hi hf hF h hl hv
    obtain ⟨f, rfl⟩ : ∃ g, f = g + 1 := ⟨f - 1, by omega⟩
    obtain ⟨F, rfl⟩ : ∃ g, F = g + 1 := ⟨F - 1, by omega⟩
    have hv4 : 10 ^ i ≤ 10 ^ 4 := Nat.pow_le_pow_right (by omega) (by omega)
    have hx := zpn_256 h
    have h1 := c_next h
    have h2 := m_here h
    have i4 : ¬ (4 : Int32) ≤ nI i := nI_ge (b := 4) (by omega) (by omega)
    cases e : zdig (zpn b n p) with
    | false =>
      obtain ⟨V', U', w1, w2, w3, w4, w5⟩ := zgd_write h hl (0, v)
      have w1 : fc_Reader_write V (0 : Int32) (nI v) = some V' := w1
      have w2 : fm_codes U (nI v) = some U' := w2
      refine ⟨V', U', p, v, ?_, ?_, Nat.le_refl _, w3, by omega, w4, w5⟩
      · rw [fc_Reader_readNumber_L4, if_neg i4, h1, Option.bind_some, c_dig V hx, e, Option.bind_some, if_pos (show (if false = true then (1 : Int32) else 0) = 0 from if_neg (by decide)), w1]; rfl
      · rw [fm_one_L131, if_neg i4, h2, Option.bind_some, m_dig U hx, e, Option.bind_some, if_pos (show (if false = true then (1 : Int32) else 0) = 0 from if_neg (by decide)), w2]; rfl
    | true =>
      cases ex : zpn b n p with
      | none => rw [ex] at e; cases e
      | some c =>
        obtain ⟨hp, hbc⟩ := zpn_s ex
        have hd : 48 ≤ c ∧ c ≤ 57 := by
          rw [ex] at e
          have e : (decide (48 ≤ c) && decide (c ≤ 57)) = true := e
          rw [Bool.and_eq_true, decide_eq_true_eq, decide_eq_true_eq] at e
          exact e
        obtain ⟨V', U', p', v', r1, r2, r3, r4, r5, r6, r7⟩ := ih (i + 1) (p + 1) (10 * v + c - 48) f F l _ _ (by omega) (by omega) (by omega) (zgd_adv h hp) (by omega) (by rw [Nat.pow_succ]; omega)
        refine ⟨V', U', p', v', ?_, ?_, by omega, r4, r5, zfr_t (zfr_adv V _) r6, mfr_t (mfr_adv U _) r7⟩
        · rw [fc_Reader_readNumber_L4, if_neg i4, h1, Option.bind_some, c_dig V hx, e, Option.bind_some, if_neg (show ¬ (if true = true then (1 : Int32) else 0) = 0 by rw [if_pos rfl]; decide), Option.bind_some, ex, show (nI v * (10 : Int32) + zov (some c)) - (48 : Int32) = nI (10 * v + c - 48) by
            rw [show (10 : Int32) = nI 10 from rfl, zl_mul, show zov (some c) = nI c from rfl, zl_add, show (48 : Int32) = nI 48 from rfl, zl_sub _ _ (by omega), Nat.mul_comm v 10], nI_1]
          exact r1
        · rw [fm_one_L131, if_neg i4, h2, Option.bind_some, m_dig U hx, e, Option.bind_some, if_neg (show ¬ (if true = true then (1 : Int32) else 0) = 0 by rw [if_pos rfl]; decide), Option.bind_some, ex, show ((10 : Int32) * nI v + zov (some c)) - (48 : Int32) = nI (10 * v + c - 48) by
            rw [show (10 : Int32) = nI 10 from rfl, zl_mul, show zov (some c) = nI c from rfl, zl_add, show (48 : Int32) = nI 48 from rfl, zl_sub _ _ (by omega)], nI_1]
          exact r2
/-! names -/
def zkn (u : Nat) (x : Option Nat) : Option Nat := match x with
  | none => none
  | some c => if u = 0 then (if c = 99 then some 0 else if c = 100 then some 1 else if c = 104 then some 2 else if c = 106 then some 3 else none) else (if c = 119 then some 0 else if c = 97 then some 1 else if c = 115 then some 2 else none)
def zwr (V : zI) (k : Nat) : Option (Int32 × zI) := (fc_Reader_write (zup V 180 3 ((V 180 3) + (1 : Int32))) (1 : Int32) (nI k)).bind fun r10 => some ((1 : Int32), r10)
theorem c_nm0_s {V : zI} {r : Int32} {k f : Nat} (hk : k < 4) : fc_Reader_readName_L19v2 (f + 1) r (nI k) V = if zLst [99, 100, 104, 106] k = r then zwr V k else fc_Reader_readName_L19v2 f r (nI (k + 1)) V := by
  rw [fc_Reader_readName_L19v2, if_neg (show ¬ (4 : Int32) ≤ nI k from nI_ge (b := 4) hk (by omega)), zl_b (by omega), show decide (k < 4) = true from decide_eq_true hk, zl_cl k (by omega), nI_1]
  rfl
theorem c_nm0 (V : zI) (r : Int32) : fc_Reader_readName_L19v2 100 r 0 V = if (99 : Int32) = r then zwr V 0 else if (100 : Int32) = r then zwr V 1 else if (104 : Int32) = r then zwr V 2 else if (106 : Int32) = r then zwr V 3 else some (0, V) := by
  have e : fc_Reader_readName_L19v2 (99 + 1) r (nI 0) V = if zLst [99, 100, 104, 106] 0 = r then zwr V 0 else fc_Reader_readName_L19v2 99 r (nI (0 + 1)) V := c_nm0_s (by omega)
  refine Eq.trans e ?_
  rw [c_nm0_s (f := 98) (k := 0 + 1) (by omega), c_nm0_s (f := 97) (by omega), c_nm0_s (f := 96) (by omega), fc_Reader_readName_L19v2, if_pos (show (4 : Int32) ≤ nI (0 + 1 + 1 + 1 + 1) by decide)]
  rfl
theorem c_nm1_s {V : zI} {r : Int32} {k f : Nat} (hk : k < 3) : fc_Reader_readName_L19 (f + 1) r (nI k) V = if zLst [119, 97, 115] k = r then zwr V k else fc_Reader_readName_L19 f r (nI (k + 1)) V := by
  rw [fc_Reader_readName_L19, if_neg (show ¬ (3 : Int32) ≤ nI k from nI_ge (b := 3) hk (by omega)), zl_b (by omega), show decide (k < 3) = true from decide_eq_true hk, zl_cl k (by omega), nI_1]
  rfl
theorem c_nm1 (V : zI) (r : Int32) : fc_Reader_readName_L19 100 r 0 V = if (119 : Int32) = r then zwr V 0 else if (97 : Int32) = r then zwr V 1 else if (115 : Int32) = r then zwr V 2 else some (0, V) := by
  have e : fc_Reader_readName_L19 (99 + 1) r (nI 0) V = if zLst [119, 97, 115] 0 = r then zwr V 0 else fc_Reader_readName_L19 99 r (nI (0 + 1)) V := c_nm1_s (by omega)
  refine Eq.trans e ?_
  rw [c_nm1_s (f := 98) (k := 0 + 1) (by omega), c_nm1_s (f := 97) (by omega), fc_Reader_readName_L19, if_pos (show (3 : Int32) ≤ nI (0 + 1 + 1 + 1) by decide)]
  rfl
theorem m_ch0 (U : zI) : ∀ k, k < 4 → fm_JString_charAt U (nI k) = some (zLst [99, 100, 104, 106] k)
  | 0, _ => rfl
  | 1, _ => rfl
  | 2, _ => rfl
  | 3, _ => rfl
  | k + 4, h => by omega
theorem m_ch1 (U : zI) : ∀ k, k < 3 → fm_JString_charAt_2 U (nI k) = some (zLst [119, 97, 115] k)
  | 0, _ => rfl
  | 1, _ => rfl
  | 2, _ => rfl
  | k + 3, h => by omega
theorem m_nm0_s {U : zI} {r v : Int32} {k f : Nat} (h8 : U 0 8 = 0) (hk : k < 4) : fm_nameOf_L4 U (f + 1) r v (nI k) = fm_nameOf_L4 U f r (if zLst [99, 100, 104, 106] k = r then nI k else v) (nI (k + 1)) := by
  have hl : fm_JString_length U = some 4 := rfl
  rw [fm_nameOf_L4, h8, if_pos rfl, hl, Option.bind_some, if_neg (show ¬ (4 : Int32) ≤ nI k from nI_ge (b := 4) hk (by omega)), if_pos rfl, m_ch0 U k hk, Option.bind_some, nI_1]
  by_cases h : zLst [99, 100, 104, 106] k = r
  · rw [if_pos h, if_pos h]
  · rw [if_neg h, if_neg h]
theorem m_nm0 {U : zI} (r : Int32) (h8 : U 0 8 = 0) : fm_nameOf U r = some (if (106 : Int32) = r then 3 else if (104 : Int32) = r then 2 else if (100 : Int32) = r then 1 else if (99 : Int32) = r then 0 else -1) := by
  have hl : fm_JString_length U = some 4 := rfl
  have e := m_nm0_s (U := U) (r := r) (v := -1) (k := 0) (f := 99) h8 (by omega)
  unfold fm_nameOf
  refine Eq.trans e ?_
  rw [m_nm0_s (f := 98) (k := 0 + 1) h8 (by omega), m_nm0_s (f := 97) h8 (by omega), m_nm0_s (f := 96) h8 (by omega), fm_nameOf_L4, h8, if_pos rfl, hl, Option.bind_some, if_pos (show (4 : Int32) ≤ nI (0 + 1 + 1 + 1 + 1) by decide)]
  rfl
theorem m_nm1_s {U : zI} {r v : Int32} {k f : Nat} (h8 : U 0 8 = 1) (hk : k < 3) : fm_nameOf_L4 U (f + 1) r v (nI k) = fm_nameOf_L4 U f r (if zLst [119, 97, 115] k = r then nI k else v) (nI (k + 1)) := by
  have hl : fm_JString_length_2 U = some 3 := rfl
  rw [fm_nameOf_L4, h8, if_neg z10, if_pos rfl, hl, Option.bind_some, if_neg (show ¬ (3 : Int32) ≤ nI k from nI_ge (b := 3) hk (by omega)), if_neg z10, if_pos rfl, m_ch1 U k hk, Option.bind_some, nI_1]
  by_cases h : zLst [119, 97, 115] k = r
  · rw [if_pos h, if_pos h]
  · rw [if_neg h, if_neg h]
theorem m_nm1 {U : zI} (r : Int32) (h8 : U 0 8 = 1) : fm_nameOf U r = some (if (115 : Int32) = r then 2 else if (97 : Int32) = r then 1 else if (119 : Int32) = r then 0 else -1) := by
  have hl : fm_JString_length_2 U = some 3 := rfl
  have e := m_nm1_s (U := U) (r := r) (v := -1) (k := 0) (f := 99) h8 (by omega)
  unfold fm_nameOf
  refine Eq.trans e ?_
  rw [m_nm1_s (f := 98) (k := 0 + 1) h8 (by omega), m_nm1_s (f := 97) h8 (by omega), fm_nameOf_L4, h8, if_neg z10, if_pos rfl, hl, Option.bind_some, if_pos (show (3 : Int32) ≤ nI (0 + 1 + 1 + 1) by decide)]
  rfl
theorem c_name {V : zI} {u : Nat} (hu : u < 2) (h6 : V 180 6 = nI u) {x : Option Nat} (hx : ∀ c, x = some c → c < 256) : fc_Reader_readName V (zov x) = (match zkn u x with
    | none => some (0, V)
    | some k => zwr V k) := by
  unfold fc_Reader_readName
  rw [h6]
  rcases (show u = 0 ∨ u = 1 by omega) with rfl | rfl
  · rw [if_pos (show nI 0 = (0 : Int32) from rfl), c_nm0]
    cases x with
    | none => rw [if_neg (show ¬ (99 : Int32) = zov none by decide), if_neg (show ¬ (100 : Int32) = zov none by decide), if_neg (show ¬ (104 : Int32) = zov none by decide), if_neg (show ¬ (106 : Int32) = zov none by decide)]; rfl
    | some c =>
      have hc := hx c rfl
      unfold zkn
      by_cases e1 : c = 99
      · subst e1; rfl
      · by_cases e2 : c = 100
        · subst e2; rfl
        · by_cases e3 : c = 104
          · subst e3; rfl
          · by_cases e4 : c = 106
            · subst e4; rfl
            · rw [if_neg (show ¬ (99 : Int32) = zov (some c) from fun e => nI_nec (c := 99) hc (by omega) e1 e.symm), if_neg (show ¬ (100 : Int32) = zov (some c) from fun e => nI_nec (c := 100) hc (by omega) e2 e.symm), if_neg (show ¬ (104 : Int32) = zov (some c) from fun e => nI_nec (c := 104) hc (by omega) e3 e.symm), if_neg (show ¬ (106 : Int32) = zov (some c) from fun e => nI_nec (c := 106) hc (by omega) e4 e.symm)]
              simp only [if_true, e1, e2, e3, e4, if_false]
  · rw [if_neg (show ¬ nI 1 = (0 : Int32) by decide)]
    unfold fc_Reader_readName_J16
    rw [c_nm1]
    cases x with
    | none => rw [if_neg (show ¬ (119 : Int32) = zov none by decide), if_neg (show ¬ (97 : Int32) = zov none by decide), if_neg (show ¬ (115 : Int32) = zov none by decide)]; rfl
    | some c =>
      have hc := hx c rfl
      unfold zkn
      by_cases e1 : c = 119
      · subst e1; rfl
      · by_cases e2 : c = 97
        · subst e2; rfl
        · by_cases e3 : c = 115
          · subst e3; rfl
          · rw [if_neg (show ¬ (119 : Int32) = zov (some c) from fun e => nI_nec (c := 119) hc (by omega) e1 e.symm), if_neg (show ¬ (97 : Int32) = zov (some c) from fun e => nI_nec (c := 97) hc (by omega) e2 e.symm), if_neg (show ¬ (115 : Int32) = zov (some c) from fun e => nI_nec (c := 115) hc (by omega) e3 e.symm)]
            simp only [show ¬ (1 = 0) by omega, e1, e2, e3, if_false]
theorem m_name {U : zI} {u : Nat} (hu : u < 2) (h8 : U 0 8 = nI u) {c : Nat} (hc : c < 256) : fm_nameOf U (nI c) = some (zov (zkn u (some c))) := by
  rcases (show u = 0 ∨ u = 1 by omega) with rfl | rfl
  · rw [m_nm0 _ h8]
    unfold zkn
    by_cases e1 : c = 99
    · subst e1; rfl
    · by_cases e2 : c = 100
      · subst e2; rfl
      · by_cases e3 : c = 104
        · subst e3; rfl
        · by_cases e4 : c = 106
          · subst e4; rfl
          · rw [if_neg (show ¬ (106 : Int32) = nI c from fun e => nI_nec (c := 106) hc (by omega) e4 e.symm), if_neg (show ¬ (104 : Int32) = nI c from fun e => nI_nec (c := 104) hc (by omega) e3 e.symm), if_neg (show ¬ (100 : Int32) = nI c from fun e => nI_nec (c := 100) hc (by omega) e2 e.symm), if_neg (show ¬ (99 : Int32) = nI c from fun e => nI_nec (c := 99) hc (by omega) e1 e.symm)]
            simp only [if_true, e1, e2, e3, e4, if_false]
            rfl
  · rw [m_nm1 _ h8]
    unfold zkn
    by_cases e1 : c = 119
    · subst e1; rfl
    · by_cases e2 : c = 97
      · subst e2; rfl
      · by_cases e3 : c = 115
        · subst e3; rfl
        · rw [if_neg (show ¬ (115 : Int32) = nI c from fun e => nI_nec (c := 115) hc (by omega) e3 e.symm), if_neg (show ¬ (97 : Int32) = nI c from fun e => nI_nec (c := 97) hc (by omega) e2 e.symm), if_neg (show ¬ (119 : Int32) = nI c from fun e => nI_nec (c := 119) hc (by omega) e1 e.symm)]
          simp only [show ¬ (1 = 0) by omega, e1, e2, e3, if_false]
          rfl
theorem zkn_lt {u : Nat} {x : Option Nat} {k : Nat} (h : zkn u x = some k) : k < znn u := by
  unfold zkn at h
  cases x with
  | none => cases h
  | some c =>
    simp only at h
    unfold znn
    by_cases hu : u = 0
    · simp only [hu, if_true] at h ⊢
      repeat' split at h
      all_goals (cases h; try omega)
    · simp only [hu, if_false] at h ⊢
      repeat' split at h
      all_goals (cases h; try omega)
