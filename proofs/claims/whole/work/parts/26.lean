/-! going a walk -/
def zpl (T : Nat → Nat → Option (Nat × Nat)) (eg : Nat → Nat) (p : Nat) : Nat → Option Nat
  | 0 => some p
  | k + 1 => (zpl T eg p k).bind fun q => (T q (eg k)).map (·.1)
def zpv (T : Nat → Nat → Option (Nat × Nat)) (eg : Nat → Nat) (p k : Nat) : Nat := (zpl T eg p k).getD 0
/-- how many of n steps can be done -/
def zgk (T : Nat → Nat → Option (Nat × Nat)) (eg : Nat → Nat) (p : Nat) : Nat → Nat
  | 0 => 0
  | n + 1 => if zpl T eg p (n + 1) = none then zgk T eg p n else n + 1
def zhs (T : Nat → Nat → Option (Nat × Nat)) (eg : Nat → Nat) (p : Nat) : Nat → Nat
  | 0 => 0
  | k + 1 => zhs T eg p k + (match T (zpv T eg p k) (eg k) with
    | none => 0
    | some q => q.2)
def zts (T : Nat → Nat → Option (Nat × Nat)) (eg : Nat → Nat) (p : Nat) : Nat → Nat
  | 0 => 0
  | k + 1 => zts T eg p k + ((zpv T eg p k ^^^ zpv T eg p (k + 1)) &&& 1)
def zsn (T : Nat → Nat → Option (Nat × Nat)) (eg : Nat → Nat) (p : Nat) : Nat → Int32
  | 0 => (1 : Int32) <<< (nI (p / 2) &&& 31)
  | k + 1 => zsn T eg p k ||| (1 : Int32) <<< (nI (zpv T eg p (k + 1) / 2) &&& 31)
theorem zpl_none {T : Nat → Nat → Option (Nat × Nat)} {eg : Nat → Nat} {p k : Nat} (h : zpl T eg p k = none) : ∀ m, zpl T eg p (k + m) = none
  | 0 => h
  | m + 1 => by
    show (zpl T eg p (k + m)).bind _ = none
    rw [zpl_none h m]; rfl
theorem zgk_none {T : Nat → Nat → Option (Nat × Nat)} {eg : Nat → Nat} {p k : Nat} (h : zpl T eg p (k + 1) = none) : ∀ m, zgk T eg p (k + m) = zgk T eg p k
  | 0 => rfl
  | m + 1 => by
    show (if zpl T eg p (k + m + 1) = none then zgk T eg p (k + m) else k + m + 1) = _
    rw [show k + m + 1 = k + 1 + m by omega, if_pos (zpl_none h m)]
    exact zgk_none h m
theorem zgk_some {T : Nat → Nat → Option (Nat × Nat)} {eg : Nat → Nat} {p : Nat} : ∀ {k q}, zpl T eg p k = some q → zgk T eg p k = k
  | 0, _, _ => rfl
  | k + 1, q, h => by
    rw [zgk, if_neg (by rw [h]; exact fun e => by cases e)]
theorem zgk_le {T : Nat → Nat → Option (Nat × Nat)} {eg : Nat → Nat} {p : Nat} : ∀ n, zgk T eg p n ≤ n ∧ (zpl T eg p (zgk T eg p n)).isSome
  | 0 => ⟨Nat.le_refl _, rfl⟩
  | n + 1 => by
    rw [zgk]
    by_cases h : zpl T eg p (n + 1) = none
    · rw [if_pos h]
      exact ⟨Nat.le_succ_of_le (zgk_le n).1, (zgk_le n).2⟩
    · rw [if_neg h]
      exact ⟨Nat.le_refl _, Option.isSome_iff_ne_none.mpr h⟩
theorem zgk_full {T : Nat → Nat → Option (Nat × Nat)} {eg : Nat → Nat} {p n : Nat} : zgk T eg p n = n ↔ ¬ zpl T eg p n = none := by
  constructor
  · intro h e
    have := (zgk_le (T := T) (eg := eg) (p := p) n).2
    rw [h, e] at this
    cases this
  · intro h
    cases e : zpl T eg p n with
    | none => exact absurd e h
    | some q => exact zgk_some e
theorem zpl_lt {ns : Nat} {T : Nat → Nat → Option (Nat × Nat)} (hT : wT ns T) {eg : Nat → Nat} {n : Nat} (he : ∀ k, k < n → eg k < 4) {p : Nat} (hp : p < 2 * ns) : ∀ {k q}, k ≤ n → zpl T eg p k = some q → q < 2 * ns
  | 0, q, _, h => by cases h; exact hp
  | k + 1, q, hk, h => by
    rw [zpl] at h
    cases hq : zpl T eg p k with
    | none => rw [hq] at h; cases h
    | some r =>
      rw [hq] at h
      have hr := zpl_lt hT he hp (k := k) (by omega) hq
      simp only [Option.bind_some] at h
      cases ht : T r (eg k) with
      | none => rw [ht] at h; cases h
      | some s =>
        rw [ht] at h
        cases h
        exact (hT.2 r (eg k) s hr (he k (by omega)) ht).1
theorem zhs_le {ns : Nat} {T : Nat → Nat → Option (Nat × Nat)} (hT : wT ns T) {eg : Nat → Nat} {n : Nat} (he : ∀ k, k < n → eg k < 4) {p : Nat} (hp : p < 2 * ns) : ∀ {k}, k ≤ n → zhs T eg p k ≤ 999 * k
  | 0, _ => Nat.le_refl _
  | k + 1, hk => by
    have ih := zhs_le hT he hp (k := k) (by omega)
    rw [zhs]
    have hpos : zpv T eg p k < 2 * ns := by
      unfold zpv
      cases hq : zpl T eg p k with
      | none => show 0 < 2 * ns; omega
      | some r => exact zpl_lt hT he hp (k := k) (by omega) hq
    cases ht : T (zpv T eg p k) (eg k) with
    | none => simp only; omega
    | some s =>
      have := (hT.2 _ (eg k) s hpos (he k (by omega)) ht).2.2
      simp only
      omega
theorem zts_le {T : Nat → Nat → Option (Nat × Nat)} {eg : Nat → Nat} {p : Nat} : ∀ k, zts T eg p k ≤ k
  | 0 => Nat.le_refl _
  | k + 1 => by
    have ih := zts_le (T := T) (eg := eg) (p := p) k
    rw [zts, Nat.and_one_is_mod]
    omega
theorem c_goes_L {I : zI} {ns : Nat} {T : Nat → Nat → Option (Nat × Nat)} {eg : Nat → Nat} {n w p : Nat} (hT : wT ns T) (hC : cT I ns T) (hw : w < 10) (hn : n ≤ 8) (he : ∀ k, k < n → eg k < 4 ∧ I (13 + w) k = nI (eg k)) (hp : p < 2 * ns) : ∀ (m k fuel q : Nat) (V : zI), k + m = n → m < fuel → zpl T eg p k = some q → V 178 1 = nI k → (∀ i, i ≤ k → V 179 i = nI (zpv T eg p i)) → (∀ c j, c ≠ 178 → c ≠ 179 → V c j = I c j) → ∃ V', fc_Walker_goes_L55 fuel (nI w) (nI q) (nI n) (nI k) V = some (if zpl T eg p n = none then 0 else 1, V') ∧ V' 178 1 = nI (zgk T eg p n) ∧ (∀ i, i ≤ zgk T eg p n → V' 179 i = nI (zpv T eg p i)) ∧ ∀ c j, c ≠ 178 → c ≠ 179 → V' c j = I c j := by
  intro m
  have hns := hT.1
  induction m with
  | zero =>
    intro k fuel q V hk hf h1 h2 h3 h4
    obtain ⟨f, rfl⟩ : ∃ f, fuel = f + 1 := ⟨fuel - 1, by omega⟩
    have hkn : k = n := by omega
    subst hkn
    rw [fc_Walker_goes_L55, if_pos (nI_le (Nat.le_refl k) (by omega)), if_neg (by rw [h1]; exact fun e => by cases e), zgk_some h1]
    exact ⟨V, rfl, h2, h3, h4⟩
  | succ m ih =>
    intro k fuel q V hk hf h1 h2 h3 h4
    obtain ⟨f, rfl⟩ : ∃ f, fuel = f + 1 := ⟨fuel - 1, by omega⟩
    obtain ⟨e1, e2⟩ := he k (by omega)
    have hq := zpl_lt hT (fun k hk => (he k hk).1) hp (k := k) (by omega) h1
    rw [fc_Walker_goes_L55, if_neg (nI_ge (a := k) (b := n) (by omega) (by omega))]
    have r1 := (hC.2 V (fun c j hc => h4 c j (by omega) (by omega)) q (eg k) hq e1).1
    have hnx : zpl T eg p (k + 1) = (T q (eg k)).map (·.1) := by rw [zpl, h1]; rfl
    simp (disch := omega) only [k_0, k_1, k_2, k_3, k_4, k_5, k_6, k_7, k_8, k_9, k_10, k_11, k_12, k_13, k_14, k_15, k_16, k_17, k_18, k_19, k_20, k_21, k_22, k_23, k_24, k_25, k_26, k_27, k_28, k_30, k_31, k_32, k_33, k_37, k_38, k_40, k_41, k_42, k_43, k_45, k_47, k_48, k_50, k_57, k_60, k_61, k_62, k_63, k_66, k_70, k_71, k_99, k_124, k_128, k_186, k_198, k_216, k_240, k_255, k_256, k_300, k_324, k_448, k_999, k_9999, k_10000, k_12345, k_20000, k_20001, k_20002, k_20003, k_20004, k_20005, k_20006, k_20007, k_20008, k_20009, k_20010, k_999999, k_100000000, k_m1, zl_add, zl_mul, zl_sub, zl_div, zl_mod, zl_lt, zl_le, zl_eq, zl_cl, zl_b, zm1_eq, zm1_eq2, zm1_lt, zm1_nlt, zm1_le, zm1_nle, z_guard, Option.bind_some, if_true, if_false, decide_true, hw, show k < 8 by omega, h4 (13 + w) k (by omega) (by omega), e2, r1]
    cases ht : T q (eg k) with
    | none =>
      rw [ht] at hnx
      have hz := zpl_none hnx m
      rw [show k + 1 + m = n by omega] at hz
      have hg := zgk_none hnx (m + 1)
      rw [show k + (m + 1) = n by omega, zgk_some h1] at hg
      simp only [if_true, hz, hg]
      exact ⟨V, rfl, h2, h3, h4⟩
    | some r =>
      rw [ht] at hnx
      have hr := (hT.2 q (eg k) r hq e1 ht).1
      simp (disch := omega) only [k_0, k_1, k_2, k_3, k_4, k_5, k_6, k_7, k_8, k_9, k_10, k_11, k_12, k_13, k_14, k_15, k_16, k_17, k_18, k_19, k_20, k_21, k_22, k_23, k_24, k_25, k_26, k_27, k_28, k_30, k_31, k_32, k_33, k_37, k_38, k_40, k_41, k_42, k_43, k_45, k_47, k_48, k_50, k_57, k_60, k_61, k_62, k_63, k_66, k_70, k_71, k_99, k_124, k_128, k_186, k_198, k_216, k_240, k_255, k_256, k_300, k_324, k_448, k_999, k_9999, k_10000, k_12345, k_20000, k_20001, k_20002, k_20003, k_20004, k_20005, k_20006, k_20007, k_20008, k_20009, k_20010, k_999999, k_100000000, k_m1, zl_add, zl_mul, zl_sub, zl_div, zl_mod, zl_lt, zl_le, zl_eq, zl_cl, zl_b, zm1_eq, zm1_eq2, zm1_lt, zm1_nlt, zm1_le, zm1_nle, z_guard, Option.bind_some, if_true, if_false, decide_true, h2, show k + 1 < 9 by omega]
      have hz : zup V 178 1 (nI (k + 1)) 178 1 = nI (k + 1) := zup_y
      obtain ⟨V', a1, a2, a3, a4⟩ := ih (k + 1) f r.1 (zup (zup V 178 1 (nI (k + 1))) 179 (k + 1) (nI r.1)) (by omega) (by omega) hnx (by (unfold zup; repeat (first | rw [if_neg (by omega)] | rw [if_pos (by omega)]))) (fun i hi => by
        by_cases hi2 : i = k + 1
        · subst hi2
          rw [zup_y]
          unfold zpv
          rw [hnx]; rfl
        · rw [zup_o (by omega), zup_o (by omega)]
          exact h3 i (by omega)) (fun c j hc hc2 => by (unfold zup; repeat (first | rw [if_neg (by omega)] | rw [if_pos (by omega)])); exact h4 c j hc hc2)
      exact ⟨V', a1, a2, a3, a4⟩
theorem c_goes {I : zI} {ns nw : Nat} {T : Nat → Nat → Option (Nat × Nat)} {kd bg sp : Nat → Nat} {mk : Nat → Int32} {eg : Nat → Nat → Nat} (hT : wT ns T) (hC : cT I ns T) (h1 : wfW ns nw kd bg sp mk eg) (h2 : wC I nw kd bg sp mk eg) {w h : Nat} (hw : w < nw) (hh : h < 2) : ∃ V', fc_Walker_goes I (nI w) (nI h) = some (if zpl T (eg w) (2 * bg w + h) (sp w) = none then 0 else 1, V') ∧ V' 178 1 = nI (zgk T (eg w) (2 * bg w + h) (sp w)) ∧ (∀ i, i ≤ zgk T (eg w) (2 * bg w + h) (sp w) → V' 179 i = nI (zpv T (eg w) (2 * bg w + h) i)) ∧ ∀ c j, c ≠ 178 → c ≠ 179 → V' c j = I c j := by
  have hns := hT.1
  have hnw := h1.1
  obtain ⟨a1, a2, a3, a4, a5⟩ := h1.2 w hw
  obtain ⟨b1, b2, b3, b4, b5⟩ := h2.2 w hw
  have q1 : zup I 178 1 0 7 0 = nI nw := by (unfold zup; repeat (first | rw [if_neg (by omega)] | rw [if_pos (by omega)])); exact h2.1
  unfold fc_Walker_goes
  rw [c_hasWalk q1 h1.1]
  have hk : ∃ k, k < nw ∧ nI w = nI k := ⟨w, hw, rfl⟩
  simp (disch := omega) only [hk, if_true, Option.bind_some, z10, if_false, zl_b, show w < 10 by omega, decide_true, z_guard, zl_cl, b2, b3]
  have q2 : zup I 178 1 0 10 w = nI (sp w) := by (unfold zup; repeat (first | rw [if_neg (by omega)] | rw [if_pos (by omega)])); exact b3
  have q3 : zup I 178 1 0 9 w = nI (bg w) := by (unfold zup; repeat (first | rw [if_neg (by omega)] | rw [if_pos (by omega)])); exact b2
  simp (disch := omega) only [k_0, k_1, k_2, k_3, k_4, k_5, k_6, k_7, k_8, k_9, k_10, k_11, k_12, k_13, k_14, k_15, k_16, k_17, k_18, k_19, k_20, k_21, k_22, k_23, k_24, k_25, k_26, k_27, k_28, k_30, k_31, k_32, k_33, k_37, k_38, k_40, k_41, k_42, k_43, k_45, k_47, k_48, k_50, k_57, k_60, k_61, k_62, k_63, k_66, k_70, k_71, k_99, k_124, k_128, k_186, k_198, k_216, k_240, k_255, k_256, k_300, k_324, k_448, k_999, k_9999, k_10000, k_12345, k_20000, k_20001, k_20002, k_20003, k_20004, k_20005, k_20006, k_20007, k_20008, k_20009, k_20010, k_999999, k_100000000, k_m1, zl_add, zl_mul, zl_sub, zl_div, zl_mod, zl_lt, zl_le, zl_eq, zl_cl, zl_b, zm1_eq, zm1_eq2, zm1_lt, zm1_nlt, zm1_le, zm1_nle, z_guard, Option.bind_some, if_true, if_false, decide_true]
  exact c_goes_L hT hC (by omega) a3 (fun k hk => ⟨a5 k hk, b5 k hk⟩) (p := 2 * bg w + h) (by omega) (sp w) 0 100 (2 * bg w + h) (zup (zup I 178 1 (nI 0)) 179 0 (nI (2 * bg w + h))) (by omega) (by omega) rfl (by (unfold zup; repeat (first | rw [if_neg (by omega)] | rw [if_pos (by omega)]))) (fun i hi => by
    have : i = 0 := by omega
    subst this
    rw [zup_y]; rfl) (fun c j hc hc2 => by (unfold zup; repeat (first | rw [if_neg (by omega)] | rw [if_pos (by omega)])))
theorem c_end {V : zI} {k x : Nat} (h1 : V 178 1 = nI k) (hk : k ≤ 8) (h2 : V 179 k = nI x) : fc_Walker_end V = some (nI x) := by
  unfold fc_Walker_end
  rw [h1]
  simp (disch := omega) only [k_0, k_1, k_2, k_3, k_4, k_5, k_6, k_7, k_8, k_9, k_10, k_11, k_12, k_13, k_14, k_15, k_16, k_17, k_18, k_19, k_20, k_21, k_22, k_23, k_24, k_25, k_26, k_27, k_28, k_30, k_31, k_32, k_33, k_37, k_38, k_40, k_41, k_42, k_43, k_45, k_47, k_48, k_50, k_57, k_60, k_61, k_62, k_63, k_66, k_70, k_71, k_99, k_124, k_128, k_186, k_198, k_216, k_240, k_255, k_256, k_300, k_324, k_448, k_999, k_9999, k_10000, k_12345, k_20000, k_20001, k_20002, k_20003, k_20004, k_20005, k_20006, k_20007, k_20008, k_20009, k_20010, k_999999, k_100000000, k_m1, zl_add, zl_mul, zl_sub, zl_div, zl_mod, zl_lt, zl_le, zl_eq, zl_cl, zl_b, zm1_eq, zm1_eq2, zm1_lt, zm1_nlt, zm1_le, zm1_nle, z_guard, Option.bind_some, if_true, if_false, decide_true, show k < 9 by omega, h2]
