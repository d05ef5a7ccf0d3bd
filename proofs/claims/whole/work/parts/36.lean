/-! ways on the side of the class: values in its cells -/
def zcm (o : Option (Nat × Nat)) : Int32 := match o with
  | none => -1
  | some q => nI q.1
def zhm (o : Option (Nat × Nat)) : Int32 := match o with
  | none => 0
  | some q => nI q.2
def zwsv (V : zI) (c1 c2 ns : Nat) (T : Nat → Nat → Option (Nat × Nat)) : Prop := ∀ p e, p < 2 * ns → e < 4 → V (c1 + p) e = zcm (T p e) ∧ V (c2 + p) e = zhm (T p e)
def zwst (V : zI) (c : Nat) (L : Nat → Option Nat) (F : Nat → Nat) : Prop := ∀ p, p < 16 → V c p = zov (L p) ∧ V (c + 1) p = nI (F p)
def znr (L : Nat → Option Nat) (left : Nat) (b : Option Nat) (k : Nat) : Prop := match b with
  | none => ∀ q, q < k → left.testBit q = true → L q = none
  | some p => p < k ∧ left.testBit p = true ∧ ∃ c, L p = some c ∧ ∀ q d, q < k → left.testBit q = true → L q = some d → c ≤ d
theorem zJ_cg {ns : Nat} {T : Nat → Nat → Option (Nat × Nat)} {a c N : Nat} {P P' : Nat → Nat → Prop} {L : Nat → Option Nat} {F : Nat → Nat} (h : zJ ns T a c N P L F) (hP : ∀ p e, P' p e ↔ P p e) : zJ ns T a c N P' L F := by
  have : P' = P := by
    funext p e
    exact propext (hP p e)
  rw [this]
  exact h
theorem ztb (x i : Nat) : x.testBit i = decide (x / 2 ^ i % 2 = 1) := Nat.testBit_eq_decide_div_mod_eq
theorem zsum_cg {P P' : Nat → Bool} {g : Nat → Nat} : ∀ n, (∀ q, q < n → P' q = P q) → zsum P' g n = zsum P g n
  | 0, _ => rfl
  | n + 1, h => by
    rw [zsum, zsum, zsum_cg n (fun q hq => h q (by omega)), h n (by omega)]
theorem zsum_rm {P P' : Nat → Bool} {cur : Nat} (hP : ∀ q, P' q = (P q && !decide (cur = q))) (hc : P cur = true) : ∀ n, cur < n → zsum P' (fun _ => 1) n + 1 = zsum P (fun _ => 1) n
  | 0, h => by omega
  | n + 1, h => by
    rw [zsum, zsum]
    by_cases e : cur = n
    · subst e
      rw [zsum_cg cur (P := P) (P' := P') (fun q hq => by
        rw [hP q, decide_eq_false (by omega)]
        cases P q <;> rfl), hP cur, hc, decide_eq_true rfl]
      simp
    · have ih := zsum_rm hP hc n (by omega)
      rw [hP n, decide_eq_false e]
      cases P n <;> simp <;> omega
theorem zsum_zero {P : Nat → Bool} : ∀ n, zsum P (fun _ => 1) n = 0 → ∀ q, q < n → P q = false
  | 0, _, q, hq => by omega
  | n + 1, h, q, hq => by
    rw [zsum] at h
    by_cases e : q = n
    · subst e
      cases hp : P q with
      | false => rfl
      | true => rw [hp] at h; simp at h
    · exact zsum_zero n (by omega) q (by omega)
theorem zsum_all {P : Nat → Bool} : ∀ n, (∀ q, q < n → P q = true) → zsum P (fun _ => 1) n = n
  | 0, _ => rfl
  | n + 1, h => by
    rw [zsum, zsum_all n (fun q hq => h q (by omega)), h n (by omega)]
    rfl
theorem zrm_bit (left cur q : Nat) : (left ^^^ (left &&& 2 ^ cur)).testBit q = (left.testBit q && !decide (cur = q)) := by
  rw [Nat.testBit_xor, Nat.testBit_and, Nat.testBit_two_pow]
  cases left.testBit q <;> cases decide (cur = q) <;> rfl
theorem zshr_b {x j : Nat} (hx : x < 65536) (hj : j < 16) : ((nI x >>> (nI j &&& 31)) &&& 1 = 1) ↔ x.testBit j = true := by
  rw [zshr_n hx hj, ztb]
  rcases (show x / 2 ^ j % 2 = 0 ∨ x / 2 ^ j % 2 = 1 by omega) with e | e <;> rw [e] <;> decide
/-! ways on the side of the class -/
theorem c_sur25 {I : zI} {ns : Nat} {T : Nat → Nat → Option (Nat × Nat)} (hT : wT ns T) (hC : cT I ns T) (K : Int32 → zI → Option zI) {p : Nat} (hp : p < 2 * ns) : ∀ (m k fuel : Nat) (V : zI), k + m = 4 → m < fuel → (∀ c j, (2 ≤ c ∧ c ≤ 6 ∨ 35 ≤ c ∧ c ≤ 37) → V c j = I c j) → (∀ e, e < k → V (108 + p) e = zcm (T p e) ∧ V (125 + p) e = zhm (T p e)) → ∃ V', fc_Ways_survey_L25 K fuel (nI p) (nI k) V = K (nI p) V' ∧ (∀ e, e < 4 → V' (108 + p) e = zcm (T p e) ∧ V' (125 + p) e = zhm (T p e)) ∧ ∀ c j, c ≠ 38 → c ≠ 39 → c ≠ 108 + p → c ≠ 125 + p → V' c j = V c j
  | 0, k, fuel, V, hk, hf, hV, hd => by
    obtain ⟨f, rfl⟩ : ∃ f, fuel = f + 1 := ⟨fuel - 1, by omega⟩
    have hk4 : k = 4 := by omega
    subst hk4
    exact ⟨V, by rw [fc_Ways_survey_L25, if_pos (show (4 : Int32) ≤ nI 4 by decide)], hd, fun _ _ _ _ _ _ => rfl⟩
  | m + 1, k, fuel, V, hk, hf, hV, hd => by
    obtain ⟨f, rfl⟩ : ∃ f, fuel = f + 1 := ⟨fuel - 1, by omega⟩
    have hns := hT.1
    have q1 : fc_Ground_comesTo V (nI p) (nI k) = some (zcm (T p k)) := (hC.2 V hV p k hp (by omega)).1
    obtain ⟨V2, q2, q3⟩ := (hC.2 (zup V (108 + p) k (zcm (T p k))) (fun c j hc => by rw [zup_o (by omega)]; exact hV c j hc) p k hp (by omega)).2
    have q2 : fc_World_hours (zup V (108 + p) k (zcm (T p k))) (nI p) (nI k) = some (zhm (T p k), V2) := q2
    rw [fc_Ways_survey_L25, if_neg (show ¬ (4 : Int32) ≤ nI k from nI_ge (b := 4) (by omega) (by omega)), q1, Option.bind_some, zl_b (by omega), zl_b (by omega), show decide (p < 16) = true from decide_eq_true (by omega), show decide (k < 4) = true from decide_eq_true (by omega), zl_cl p (by omega), zl_cl k (by omega), q2, Option.bind_some, nI_1]
    simp only [z_guard, if_true]
    obtain ⟨V', r1, r2, r3⟩ := c_sur25 hT hC K hp m (k + 1) f (zup V2 (125 + p) k (zhm (T p k))) (by omega) (by omega) (fun c j hc => by rw [zup_o (by omega), q3 c j (by omega) (by omega), zup_o (by omega)]; exact hV c j hc) (fun e he => by
      by_cases hek : e = k
      · subst hek
        rw [zup_y, zup_o (by omega), q3 _ _ (by omega) (by omega), zup_y]
        exact ⟨rfl, rfl⟩
      · rw [zup_o (by omega), zup_o (by omega), q3 _ _ (by omega) (by omega), q3 _ _ (by omega) (by omega), zup_o (by omega), zup_o (by omega)]
        exact hd e (by omega))
    exact ⟨V', r1, r2, fun c j h1 h2 h3 h4 => by rw [r3 c j h1 h2 h3 h4, zup_o (by omega), q3 c j h1 h2, zup_o (by omega)]⟩
theorem c_sur15 {I : zI} {ns : Nat} {T : Nat → Nat → Option (Nat × Nat)} (hT : wT ns T) (hC : cT I ns T) : ∀ (m k fuel : Nat) (V : zI), k + m = 2 * ns → m < fuel → V 104 4 = nI (2 * ns) → (∀ c j, (2 ≤ c ∧ c ≤ 6 ∨ 35 ≤ c ∧ c ≤ 37) → V c j = I c j) → (∀ p e, p < k → e < 4 → V (108 + p) e = zcm (T p e) ∧ V (125 + p) e = zhm (T p e)) → ∃ V', fc_Ways_survey_L15 fuel (nI k) V = some V' ∧ V' 104 4 = nI (2 * ns) ∧ zwsv V' 108 125 ns T ∧ ∀ c j, c ≠ 38 → c ≠ 39 → ¬ (108 ≤ c ∧ c < 108 + 16) → ¬ (125 ≤ c ∧ c < 125 + 16) → V' c j = V c j
  | 0, k, fuel, V, hk, hf, h4, hV, hd => by
    obtain ⟨f, rfl⟩ : ∃ f, fuel = f + 1 := ⟨fuel - 1, by omega⟩
    have hns := hT.1
    exact ⟨V, by rw [fc_Ways_survey_L15, h4, if_pos (nI_le (by omega) (by omega))], h4, fun p e hp he => hd p e (by omega) he, fun _ _ _ _ _ _ => rfl⟩
  | m + 1, k, fuel, V, hk, hf, h4, hV, hd => by
    obtain ⟨f, rfl⟩ : ∃ f, fuel = f + 1 := ⟨fuel - 1, by omega⟩
    have hns := hT.1
    obtain ⟨V1, r1, r2, r3⟩ := c_sur25 hT hC (fun (u9 : Int32) (J10 : zI) => fc_Ways_survey_L15 f (u9 + (1 : Int32)) J10) (p := k) (by omega) 4 0 100 V (by omega) (by omega) hV (fun e he => by omega)
    obtain ⟨V', s1, s2, s3, s4⟩ := c_sur15 hT hC m (k + 1) f V1 (by omega) (by omega) (by rw [r3 _ _ (by omega) (by omega) (by omega) (by omega)]; exact h4) (fun c j hc => by rw [r3 c j (by omega) (by omega) (by omega) (by omega)]; exact hV c j hc) (fun p e hp he => by
      by_cases hpk : p = k
      · subst hpk; exact r2 e he
      · rw [r3 _ _ (by omega) (by omega) (by omega) (by omega), r3 _ _ (by omega) (by omega) (by omega) (by omega)]
        exact hd p e (by omega) he)
    refine ⟨V', ?_, s2, s3, fun c j h1 h2 h3 h5 => by rw [s4 c j h1 h2 h3 h5, r3 c j h1 h2 (by omega) (by omega)]⟩
    rw [fc_Ways_survey_L15, h4, if_neg (nI_ge (by omega) (by omega)), show (0 : Int32) = nI 0 from rfl, r1]
    rw [nI_1]
    exact s1
theorem c_survey {I : zI} {ns : Nat} {T : Nat → Nat → Option (Nat × Nat)} (hT : wT ns T) (hC : cT I ns T) : ∃ V', fc_Ways_survey I = some V' ∧ V' 104 4 = nI (2 * ns) ∧ zwsv V' 108 125 ns T ∧ ∀ c j, c ≠ 38 → c ≠ 39 → ¬ (c = 104 ∧ j = 4) → ¬ (108 ≤ c ∧ c < 108 + 16) → ¬ (125 ≤ c ∧ c < 125 + 16) → V' c j = I c j := by
  have hns := hT.1
  obtain ⟨V', s1, s2, s3, s4⟩ := c_sur15 hT hC (2 * ns) 0 100 (zup I 104 4 (nI (2 * ns))) (by omega) (by omega) zup_y (fun c j hc => zup_o (by omega)) (fun p e hp he => by omega)
  refine ⟨V', ?_, s2, s3, fun c j h1 h2 h3 h4 h5 => by rw [s4 c j h1 h2 h4 h5, zup_o (by omega)]⟩
  unfold fc_Ways_survey
  rw [hC.1, show (2 : Int32) * nI ns = nI (2 * ns) from zl_mul 2 ns]
  exact s1
theorem c_near_L {V : zI} {ns left : Nat} {L : Nat → Option Nat} (hns : ns ≤ 8) (h4 : V 104 4 = nI (2 * ns)) (hL : ∀ p, p < 16 → V 105 p = zov (L p)) (hb : ∀ p d, L p = some d → d ≤ 15984) (hl : left < 65536) : ∀ (m k fuel : Nat) (b : Option Nat), k + m = 2 * ns → m < fuel → znr L left b k → ∃ b', fc_Ways_nearest_L4 V fuel (nI left) (zov b) (nI k) = some (zov b') ∧ znr L left b' (2 * ns) := by
  intro m
  induction m with
  | zero =>
    intro k fuel b hk hf hz
    obtain ⟨f, rfl⟩ : ∃ f, fuel = f + 1 := ⟨fuel - 1, by omega⟩
    refine ⟨b, by rw [fc_Ways_nearest_L4, h4, if_pos (nI_le (by omega) (by omega))], ?_⟩
    rw [show 2 * ns = k by omega]; exact hz
  | succ m ih =>
    intro k fuel b hk hf hz
    obtain ⟨f, rfl⟩ : ∃ f, fuel = f + 1 := ⟨fuel - 1, by omega⟩
    have hbit := zshr_b (x := left) (j := k) hl (by omega)
    rw [fc_Ways_nearest_L4, h4, if_neg (nI_ge (by omega) (by omega)), nI_1]
    by_cases ht : left.testBit k = true
    · rw [if_pos (hbit.mpr ht), zl_b (by omega), show decide (k < 16) = true from decide_eq_true (by omega), zl_cl k (by omega), hL k (by omega)]
      simp only [z_guard, if_true]
      cases e : L k with
      | none =>
        rw [if_pos (show zov none < 0 by decide)]
        refine ih (k + 1) f b (by omega) (by omega) ?_
        cases b with
        | none =>
          intro q hq hq2
          by_cases hqk : q = k
          · rw [hqk]; exact e
          · exact hz q (by omega) hq2
        | some p =>
          obtain ⟨z1, z2, c, z3, z4⟩ := hz
          refine ⟨by omega, z2, c, z3, fun q d hq hq2 hd => ?_⟩
          by_cases hqk : q = k
          · rw [hqk, e] at hd; cases hd
          · exact z4 q d (by omega) hq2 hd
      | some d0 =>
        have hd0 := hb k d0 e
        rw [if_neg (show ¬ zov (some d0) < 0 from nI_pos (by omega))]
        cases b with
        | none =>
          rw [if_pos (show zov none = -1 from rfl)]
          refine ih (k + 1) f (some k) (by omega) (by omega) ⟨by omega, ht, d0, e, fun q d hq hq2 hd => ?_⟩
          by_cases hqk : q = k
          · rw [hqk, e] at hd; cases hd; exact Nat.le_refl _
          · have := hz q (by omega) hq2
            rw [this] at hd; cases hd
        | some p =>
          obtain ⟨z1, z2, c, z3, z4⟩ := hz
          have hc := hb p c z3
          rw [if_neg (show ¬ zov (some p) = -1 by rw [show zov (some p) = nI p from rfl, zl_eqm1 (by omega)]; exact id), show zov (some p) = nI p from rfl, zl_b (by omega), show decide (p < 16) = true from decide_eq_true (by omega), zl_cl p (by omega), hL p (by omega), z3]
          simp only [if_true]
          by_cases hcd : c ≤ d0
          · rw [if_pos (show zov (some c) ≤ zov (some d0) from nI_le hcd (by omega))]
            refine ih (k + 1) f (some p) (by omega) (by omega) ⟨by omega, z2, c, z3, fun q d hq hq2 hd => ?_⟩
            by_cases hqk : q = k
            · rw [hqk, e] at hd; cases hd; exact hcd
            · exact z4 q d (by omega) hq2 hd
          · rw [if_neg (show ¬ zov (some c) ≤ zov (some d0) from nI_ge (by omega) (by omega))]
            refine ih (k + 1) f (some k) (by omega) (by omega) ⟨by omega, ht, d0, e, fun q d hq hq2 hd => ?_⟩
            by_cases hqk : q = k
            · rw [hqk, e] at hd; cases hd; exact Nat.le_refl _
            · have := z4 q d (by omega) hq2 hd
              omega
    · rw [if_neg (fun q => ht (hbit.mp q))]
      refine ih (k + 1) f b (by omega) (by omega) ?_
      cases b with
      | none =>
        intro q hq hq2
        by_cases hqk : q = k
        · rw [hqk] at hq2; exact absurd hq2 ht
        · exact hz q (by omega) hq2
      | some p =>
        obtain ⟨z1, z2, c, z3, z4⟩ := hz
        refine ⟨by omega, z2, c, z3, fun q d hq hq2 hd => ?_⟩
        by_cases hqk : q = k
        · rw [hqk] at hq2; exact absurd hq2 ht
        · exact z4 q d (by omega) hq2 hd
theorem c_spr70 {ns : Nat} {T : Nat → Nat → Option (Nat × Nat)} (hT : wT ns T) {a cur c N : Nat} {P : Nat → Nat → Prop} (ha : a < 2 * ns) (hcur : cur < 2 * ns) (hN : c + 999 ≤ N) (hN2 : N ≤ 15984) (K : Int32 → Int32 → Int32 → zI → Option zI) (v2 v3 : Int32) : ∀ (m k fuel : Nat) (V : zI) (L : Nat → Option Nat) (F : Nat → Nat), k + m = 4 → m < fuel → zwsv V 108 125 ns T → zwst V 105 L F → zJ ns T a c N (fun p e => P p e ∨ (p = cur ∧ e < k)) L F → L cur = some c → ∃ V' L' F', fc_Ways_spread_L70 K fuel (nI a) v2 v3 (nI cur) (nI k) V = K (nI a) v2 v3 V' ∧ zwst V' 105 L' F' ∧ zJ ns T a c N (fun p e => P p e ∨ (p = cur ∧ e < 4)) L' F' ∧ (∀ q d, L' q = some d → L q = some d ∨ c ≤ d) ∧ ∀ x j, x ≠ 105 → x ≠ 106 → V' x j = V x j := by
  have hns := hT.1
  intro m
  induction m with
  | zero =>
    intro k fuel V L F hk hf hs ht hJ hc
    obtain ⟨f, rfl⟩ : ∃ f, fuel = f + 1 := ⟨fuel - 1, by omega⟩
    have hk4 : k = 4 := by omega
    subst hk4
    exact ⟨V, L, F, by rw [fc_Ways_spread_L70, if_pos (show (4 : Int32) ≤ nI 4 by decide)], ht, hJ, fun q d hq => Or.inl hq, fun _ _ _ _ => rfl⟩
  | succ m ih =>
    intro k fuel V L F hk hf hs ht hJ hc
    obtain ⟨f, rfl⟩ : ∃ f, fuel = f + 1 := ⟨fuel - 1, by omega⟩
    have hPn : ∀ p e, (P p e ∨ (p = cur ∧ e < k + 1)) ↔ (P p e ∨ (p = cur ∧ e < k)) ∨ (p = cur ∧ e = k) := fun p e => by
      constructor
      · rintro (h | ⟨h1, h2⟩)
        · exact Or.inl (Or.inl h)
        · by_cases hek : e = k
          · exact Or.inr ⟨h1, hek⟩
          · exact Or.inl (Or.inr ⟨h1, by omega⟩)
      · rintro ((h | ⟨h1, h2⟩) | ⟨h1, h2⟩)
        · exact Or.inl h
        · exact Or.inr ⟨h1, by omega⟩
        · exact Or.inr ⟨h1, by omega⟩
    obtain ⟨s1, s2⟩ := hs cur k hcur (by omega)
    have h4 : ¬ (4 : Int32) ≤ nI k := nI_ge (b := 4) (by omega) (by omega)
    have hgo : ∀ fv, fv < 16 → (∀ j, j < 4 → (fv.testBit j = true ↔ (cur = a ∧ k = j ∨ cur ≠ a ∧ (F cur).testBit j = true))) → ∃ V' L' F', (if V (108 + cur) k = -1 then fc_Ways_spread_L70 K f (nI a) v2 v3 (nI cur) (nI (k + 1)) V else (fc_Ways_comeTo V (V (108 + cur) k) (V 105 cur + V (125 + cur) k) (nI fv)).bind fun r => fc_Ways_spread_L70 K f (nI a) v2 v3 (nI cur) (nI (k + 1)) r) = K (nI a) v2 v3 V' ∧ zwst V' 105 L' F' ∧ zJ ns T a c N (fun p e => P p e ∨ (p = cur ∧ e < 4)) L' F' ∧ (∀ q d, L' q = some d → L q = some d ∨ c ≤ d) ∧ ∀ x j, x ≠ 105 → x ≠ 106 → V' x j = V x j := by
      intro fv hf16 hfv
      rw [s1, s2, (ht cur (by omega)).1, hc]
      cases eT : T cur k with
      | none =>
        rw [if_pos (show zcm none = -1 from rfl)]
        exact ih (k + 1) f V L F (by omega) (by omega) hs ht (zJ_no hJ hPn hcur (by omega) hc (fun q h0 e => by rw [eT] at e; cases e)) hc
      | some qh =>
        obtain ⟨q, h0⟩ := qh
        have hq2 := hT.2 cur k (q, h0) hcur (by omega) eT
        simp only at hq2
        rw [if_neg (show ¬ zcm (some (q, h0)) = -1 by rw [show zcm (some (q, h0)) = nI q from rfl, zl_eqm1 (by omega)]; exact id), show zcm (some (q, h0)) = nI q from rfl, show zov (some c) + zhm (some (q, h0)) = nI (c + h0) from zl_add c h0]
        unfold fc_Ways_comeTo
        rw [zl_b (by omega), show decide (q < 16) = true from decide_eq_true (by omega), zl_cl q (by omega), (ht q (by omega)).1, (ht q (by omega)).2]
        simp only [z_guard, if_true]
        have hset : (∀ d, L q = some d → c + h0 < d) → ∃ V' L' F', fc_Ways_spread_L70 K f (nI a) v2 v3 (nI cur) (nI (k + 1)) (zup (zup V 105 q (nI (c + h0))) 106 q (nI fv)) = K (nI a) v2 v3 V' ∧ zwst V' 105 L' F' ∧ zJ ns T a c N (fun p e => P p e ∨ (p = cur ∧ e < 4)) L' F' ∧ (∀ q d, L' q = some d → L q = some d ∨ c ≤ d) ∧ ∀ x j, x ≠ 105 → x ≠ 106 → V' x j = V x j := fun hlt => by
          have hqc : cur ≠ q := fun e => by subst e; have := hlt c hc; omega
          obtain ⟨V', L', F', r1, r2, r3, r4, r5⟩ := ih (k + 1) f (zup (zup V 105 q (nI (c + h0))) 106 q (nI fv)) (vup L q (some (c + h0))) (vup F q fv) (by omega) (by omega) (fun p e hp he => by rw [zup_o (by omega), zup_o (by omega), zup_o (by omega), zup_o (by omega)]; exact hs p e hp he) (fun p hp => by
            by_cases hpq : p = q
            · subst hpq
              rw [zup_o (by omega), zup_y, vup_s, vup_s]
              exact ⟨rfl, zup_y⟩
            · rw [zup_o (by omega), zup_o (by omega), zup_o (by omega), zup_o (by omega), vup_n hpq, vup_n hpq]
              exact ht p hp) (zJ_set hT hJ hPn hcur (by omega) hc eT hlt hN hf16 hfv) (by rw [vup_n hqc]; exact hc)
          refine ⟨V', L', F', r1, r2, r3, fun x d hx => ?_, fun x j h1 h2 => by rw [r5 x j h1 h2, zup_o (by omega), zup_o (by omega)]⟩
          rcases r4 x d hx with h | h
          · by_cases hxq : x = q
            · subst hxq
              rw [vup_s] at h
              cases h
              exact Or.inr (by omega)
            · rw [vup_n hxq] at h
              exact Or.inl h
          · exact Or.inr h
        cases eL : L q with
        | none =>
          rw [if_pos (show zov none < 0 by decide), Option.bind_some]
          exact hset (fun d hd => by rw [eL] at hd; cases hd)
        | some d0 =>
          have hd0 := (hJ.2.1 q d0 eL).2
          rw [if_neg (show ¬ zov (some d0) < 0 from nI_pos (by omega))]
          by_cases hle : d0 ≤ c + h0
          · rw [if_pos (show zov (some d0) ≤ nI (c + h0) from nI_le hle (by omega))]
            by_cases heq : c + h0 = d0
            · rw [if_pos (show nI (c + h0) = zov (some d0) by rw [heq]; rfl), Option.bind_some, zl_or]
              obtain ⟨V', L', F', r1, r2, r3, r4, r5⟩ := ih (k + 1) f (zup V 106 q (nI (F q ||| fv))) L (vup F q (F q ||| fv)) (by omega) (by omega) (fun p e hp he => by rw [zup_o (by omega), zup_o (by omega)]; exact hs p e hp he) (fun p hp => by
                by_cases hpq : p = q
                · subst hpq
                  rw [zup_o (by omega), vup_s]
                  exact ⟨(ht p hp).1, zup_y⟩
                · rw [zup_o (by omega), zup_o (by omega), vup_n hpq]
                  exact ht p hp) (zJ_tie hT hJ hPn hcur (by omega) hc eT (by rw [eL, heq]) hf16 hfv) hc
              exact ⟨V', L', F', r1, r2, r3, r4, fun x j h1 h2 => by rw [r5 x j h1 h2, zup_o (by omega)]⟩
            · rw [if_neg (show ¬ nI (c + h0) = zov (some d0) from fun e => heq ((nI_eq (by omega) (by omega)).mp e)), Option.bind_some]
              exact ih (k + 1) f V L F (by omega) (by omega) hs ht (zJ_no hJ hPn hcur (by omega) hc (fun q2 h2 e => by
                rw [eT] at e
                cases e
                exact ⟨d0, eL, by omega⟩)) hc
          · rw [if_neg (show ¬ zov (some d0) ≤ nI (c + h0) from nI_ge (by omega) (by omega)), Option.bind_some]
            exact hset (fun d hd => by rw [eL] at hd; cases hd; omega)
    rw [fc_Ways_spread_L70, if_neg h4, zl_b (by omega), zl_b (by omega), show decide (cur < 16) = true from decide_eq_true (by omega), show decide (k < 4) = true from decide_eq_true (by omega), zl_cl cur (by omega), zl_cl k (by omega), nI_1]
    simp only [z_guard, if_true]
    by_cases hca : cur = a
    · rw [if_pos (show nI cur = nI a by rw [hca]), zshl2 k (by omega)]
      exact hgo (2 ^ k) (Nat.pow_lt_pow_right (n := 4) (by omega) (by omega)) (fun j hj => by
        rw [Nat.testBit_two_pow, decide_eq_true_eq]
        exact ⟨fun h => Or.inl ⟨hca, h⟩, fun h => by rcases h with h | h; exact h.2; exact absurd hca h.1⟩)
    · rw [if_neg (show ¬ nI cur = nI a from fun e => hca ((nI_eq (by omega) (by omega)).mp e)), (ht cur (by omega)).2]
      exact hgo (F cur) (hJ.2.2.2.2.2.1 cur) (fun j hj => ⟨fun h => Or.inr ⟨hca, h⟩, fun h => by rcases h with h | h; exact absurd h.1 hca; exact h.2⟩)
theorem c_spr34 {ns : Nat} {T : Nat → Nat → Option (Nat × Nat)} (hT : wT ns T) {a : Nat} (ha : a < 2 * ns) : ∀ (m i fuel : Nat) (V : zI) (L : Nat → Option Nat) (F : Nat → Nat) (left c : Nat), i + m = 2 * ns → m < fuel → V 104 4 = nI (2 * ns) → zwsv V 108 125 ns T → zwst V 105 L F → zJ ns T a c (999 * i) (fun p e => p < 2 * ns ∧ e < 4 ∧ left.testBit p = false) L F → (∀ q d, left.testBit q = true → L q = some d → c ≤ d) → left < 65536 → zsum (fun q => left.testBit q) (fun _ => 1) (2 * ns) + i = 2 * ns → ∃ V' L' F', fc_Ways_spread_L34 fuel (nI a) (nI left) (nI i) V = some V' ∧ zwst V' 105 L' F' ∧ zds ns T a L' ∧ zFs ns T a L' F' ∧ ∀ x j, x ≠ 105 → x ≠ 106 → V' x j = V x j := by
  have hns := hT.1
  intro m
  induction m with
  | zero =>
    intro i fuel V L F left c hi hf h4 hs ht hJ hlow hl hsum
    obtain ⟨f, rfl⟩ : ∃ f, fuel = f + 1 := ⟨fuel - 1, by omega⟩
    have hz := zsum_zero (2 * ns) (show zsum (fun q => left.testBit q) (fun _ => 1) (2 * ns) = 0 by omega)
    have hE := zJ_end hJ (by omega) (fun p d e hp he => ⟨(hJ.2.1 p d hp).1, he, hz p (hJ.2.1 p d hp).1⟩)
    exact ⟨V, L, F, by rw [fc_Ways_spread_L34, h4, if_pos (nI_le (by omega) (by omega))], ht, hE.1, hE.2, fun _ _ _ _ => rfl⟩
  | succ m ih =>
    intro i fuel V L F left c hi hf h4 hs ht hJ hlow hl hsum
    obtain ⟨f, rfl⟩ : ∃ f, fuel = f + 1 := ⟨fuel - 1, by omega⟩
    obtain ⟨b, n1, n2⟩ := c_near_L hns h4 (fun p hp => (ht p hp).1) (fun p d hd => by have := (hJ.2.1 p d hd).2; omega) hl (2 * ns) 0 100 none (by omega) (by omega) (fun q hq => by omega)
    have n1 : fc_Ways_nearest V (nI left) = some (zov b) := n1
    rw [fc_Ways_spread_L34, h4, if_neg (nI_ge (by omega) (by omega)), n1, Option.bind_some]
    cases b with
    | none =>
      rw [if_pos (show zov none = -1 from rfl)]
      have hE := zJ_end hJ (by omega) (fun p d e hp he => ⟨(hJ.2.1 p d hp).1, he, by
        cases hbp : left.testBit p with
        | false => rfl
        | true =>
          have := n2 p (hJ.2.1 p d hp).1 hbp
          rw [hp] at this; cases this⟩)
      exact ⟨V, L, F, rfl, ht, hE.1, hE.2, fun _ _ _ _ => rfl⟩
    | some cur =>
      obtain ⟨z1, z2, c', z3, z4⟩ := n2
      have hcc := hlow cur c' z2 z3
      have hc9 := (hJ.2.1 cur c' z3).2
      have hl2 : left ^^^ (left &&& 2 ^ cur) < 65536 := Nat.xor_lt_two_pow (n := 16) hl (Nat.lt_of_le_of_lt Nat.and_le_left hl)
      have hrm := zsum_rm (P := fun q => left.testBit q) (P' := fun q => (left ^^^ (left &&& 2 ^ cur)).testBit q) (cur := cur) (fun q => zrm_bit left cur q) z2 (2 * ns) z1
      rw [if_neg (show ¬ zov (some cur) = -1 by rw [show zov (some cur) = nI cur from rfl, zl_eqm1 (by omega)]; exact id), show zov (some cur) = nI cur from rfl, zshl2 cur (by omega), zandnot]
      obtain ⟨V1, L1, F1, r1, r2, r3, r4, r5⟩ := c_spr70 hT (P := fun p e => p < 2 * ns ∧ e < 4 ∧ left.testBit p = false) ha z1 (show c' + 999 ≤ 999 * (i + 1) by omega) (by omega) (fun (u18 : Int32) (u19 : Int32) (u20 : Int32) (J21 : zI) => fc_Ways_spread_L34 f u18 u19 (u20 + (1 : Int32)) J21) (nI (left ^^^ (left &&& 2 ^ cur))) (nI i) 4 0 100 V L F (by omega) (by omega) hs ht (zJ_cg (zJ_mono hJ hcc (show 999 * i ≤ 999 * (i + 1) by omega)) (fun p e => ⟨fun h => by rcases h with h | h; exact h; exact absurd h.2 (by omega), Or.inl⟩)) z3
      rw [show (0 : Int32) = nI 0 from rfl, r1]
      rw [nI_1]
      obtain ⟨V', L', F', q1, q2, q3, q4, q5⟩ := ih (i + 1) f V1 L1 F1 (left ^^^ (left &&& 2 ^ cur)) c' (by omega) (by omega) (by rw [r5 _ _ (by omega) (by omega)]; exact h4) (fun p e hp he => by rw [r5 _ _ (by omega) (by omega), r5 _ _ (by omega) (by omega)]; exact hs p e hp he) r2 (zJ_cg r3 (fun p e => by
        rw [zrm_bit left cur p]
        constructor
        · rintro ⟨h1, h2, h3⟩
          by_cases hcp : cur = p
          · exact Or.inr ⟨hcp.symm, h2⟩
          · rw [decide_eq_false hcp, Bool.not_false, Bool.and_true] at h3
            exact Or.inl ⟨h1, h2, h3⟩
        · rintro (⟨h1, h2, h3⟩ | ⟨h1, h2⟩)
          · exact ⟨h1, h2, by rw [h3]; rfl⟩
          · exact ⟨by omega, h2, by rw [decide_eq_true h1.symm, Bool.not_true, Bool.and_false]⟩)) (fun q d hq hd => by
        rw [zrm_bit left cur q, Bool.and_eq_true] at hq
        rcases r4 q d hd with h | h
        · exact z4 q d (hJ.2.1 q d h).1 hq.1 h
        · exact h) hl2 (by omega)
      exact ⟨V', L', F', q1, q2, q3, q4, fun x j h1 h2 => by rw [q5 x j h1 h2, r5 x j h1 h2]⟩
theorem c_spread {I : zI} {ns : Nat} {T : Nat → Nat → Option (Nat × Nat)} (hT : wT ns T) {a : Nat} (ha : a < 2 * ns) (h4 : I 104 4 = nI (2 * ns)) (hs : zwsv I 108 125 ns T) : ∃ V' L' F', fc_Ways_spread I (nI a) = some V' ∧ zwst V' 105 L' F' ∧ zds ns T a L' ∧ zFs ns T a L' F' ∧ ∀ x j, x ≠ 105 → x ≠ 106 → V' x j = I x j := by
  have hns := hT.1
  have hpw : 2 ^ (2 * ns) ≤ 2 ^ 16 := Nat.pow_le_pow_right (by omega) (by omega)
  have hp0 : 0 < 2 ^ (2 * ns) := Nat.two_pow_pos _
  obtain ⟨V', L', F', q1, q2, q3, q4, q5⟩ := c_spr34 hT ha (2 * ns) 0 100 (zup (zfill (zfill I 105 16 (-1 : Int32)) 106 16 (0 : Int32)) 105 a (0 : Int32)) (vup (fun _ => none) a (some 0)) (fun _ => 0) (2 ^ (2 * ns) - 1) 0 (by omega) (by omega) (by rw [zup_o (by omega), zfi_o (by omega), zfi_o (by omega)]; exact h4) (fun p e hp he => by
    rw [zup_o (by omega), zfi_o (by omega), zfi_o (by omega), zup_o (by omega), zfi_o (by omega), zfi_o (by omega)]
    exact hs p e hp he) (fun p hp => by
    by_cases hpa : p = a
    · subst hpa
      rw [zup_y, zup_o (by omega), zfi_y hp, vup_s]
      exact ⟨rfl, rfl⟩
    · rw [zup_o (by omega), zfi_o (by omega), zfi_y hp, zup_o (by omega), zfi_y hp, vup_n hpa]
      exact ⟨rfl, rfl⟩) (by
    have hno : ∀ p e, ¬ (p < 2 * ns ∧ e < 4 ∧ (2 ^ (2 * ns) - 1).testBit p = false) := fun p e hh => by
      obtain ⟨h1, h2, h3⟩ := hh
      rw [Nat.testBit_two_pow_sub_one, decide_eq_true h1] at h3
      cases h3
    have hL : ∀ q d, vup (fun _ => none) a (some 0) q = some d → q = a ∧ d = 0 := fun q d hq => by
      by_cases hqa : q = a
      · subst hqa
        rw [vup_s] at hq
        cases hq
        exact ⟨rfl, rfl⟩
      · rw [vup_n hqa] at hq
        cases hq
    refine ⟨vup_s, fun p d hp => ?_, fun p e hp => absurd hp (hno p e), fun p e q h d hp => absurd hp (hno p e), fun q d hq hd => absurd (hL q d hd).1 hq, fun _ => by show 0 < 16; omega, fun q j hj => ?_⟩
    · obtain ⟨rfl, rfl⟩ := hL p d hp
      exact ⟨ha, by omega⟩
    · constructor
      · intro h
        rw [Nat.zero_testBit] at h
        cases h
      · rintro ⟨_, p, e, h, d, d', k1, _⟩
        exact absurd k1 (hno p e)) (fun q d hq hd => Nat.zero_le _) (by omega) (by
    rw [zsum_all (2 * ns) (fun q hq => by rw [Nat.testBit_two_pow_sub_one, decide_eq_true hq])]; rfl)
  refine ⟨V', L', F', ?_, q2, q3, q4, fun x j h1 h2 => by rw [q5 x j h1 h2, zup_o (by omega), zfi_o (by omega), zfi_o (by omega)]⟩
  unfold fc_Ways_spread
  rw [zl_b (by omega), show decide (a < 16) = true from decide_eq_true (by omega), zl_cl a (by omega), show (zfill (zfill I 105 16 (-1 : Int32)) 106 16 (0 : Int32)) 104 4 = nI (2 * ns) by rw [zfi_o (by omega), zfi_o (by omega)]; exact h4, zshl1 (2 * ns) (by omega)]
  exact q1
/-! the other ways on the side of the class -/
theorem c_sur25_2 {I : zI} {ns : Nat} {T : Nat → Nat → Option (Nat × Nat)} (hT : wT ns T) (hC : cT I ns T) (K : Int32 → zI → Option zI) {p : Nat} (hp : p < 2 * ns) : ∀ (m k fuel : Nat) (V : zI), k + m = 4 → m < fuel → (∀ c j, (2 ≤ c ∧ c ≤ 6 ∨ 35 ≤ c ∧ c ≤ 37) → V c j = I c j) → (∀ e, e < k → V (145 + p) e = zcm (T p e) ∧ V (162 + p) e = zhm (T p e)) → ∃ V', fc_Ways_survey_2_L25 K fuel (nI p) (nI k) V = K (nI p) V' ∧ (∀ e, e < 4 → V' (145 + p) e = zcm (T p e) ∧ V' (162 + p) e = zhm (T p e)) ∧ ∀ c j, c ≠ 38 → c ≠ 39 → c ≠ 145 + p → c ≠ 162 + p → V' c j = V c j
  | 0, k, fuel, V, hk, hf, hV, hd => by
    obtain ⟨f, rfl⟩ : ∃ f, fuel = f + 1 := ⟨fuel - 1, by omega⟩
    have hk4 : k = 4 := by omega
    subst hk4
    exact ⟨V, by rw [fc_Ways_survey_2_L25, if_pos (show (4 : Int32) ≤ nI 4 by decide)], hd, fun _ _ _ _ _ _ => rfl⟩
  | m + 1, k, fuel, V, hk, hf, hV, hd => by
    obtain ⟨f, rfl⟩ : ∃ f, fuel = f + 1 := ⟨fuel - 1, by omega⟩
    have hns := hT.1
    have q1 : fc_Ground_comesTo V (nI p) (nI k) = some (zcm (T p k)) := (hC.2 V hV p k hp (by omega)).1
    obtain ⟨V2, q2, q3⟩ := (hC.2 (zup V (145 + p) k (zcm (T p k))) (fun c j hc => by rw [zup_o (by omega)]; exact hV c j hc) p k hp (by omega)).2
    have q2 : fc_World_hours (zup V (145 + p) k (zcm (T p k))) (nI p) (nI k) = some (zhm (T p k), V2) := q2
    rw [fc_Ways_survey_2_L25, if_neg (show ¬ (4 : Int32) ≤ nI k from nI_ge (b := 4) (by omega) (by omega)), q1, Option.bind_some, zl_b (by omega), zl_b (by omega), show decide (p < 16) = true from decide_eq_true (by omega), show decide (k < 4) = true from decide_eq_true (by omega), zl_cl p (by omega), zl_cl k (by omega), q2, Option.bind_some, nI_1]
    simp only [z_guard, if_true]
    obtain ⟨V', r1, r2, r3⟩ := c_sur25_2 hT hC K hp m (k + 1) f (zup V2 (162 + p) k (zhm (T p k))) (by omega) (by omega) (fun c j hc => by rw [zup_o (by omega), q3 c j (by omega) (by omega), zup_o (by omega)]; exact hV c j hc) (fun e he => by
      by_cases hek : e = k
      · subst hek
        rw [zup_y, zup_o (by omega), q3 _ _ (by omega) (by omega), zup_y]
        exact ⟨rfl, rfl⟩
      · rw [zup_o (by omega), zup_o (by omega), q3 _ _ (by omega) (by omega), q3 _ _ (by omega) (by omega), zup_o (by omega), zup_o (by omega)]
        exact hd e (by omega))
    exact ⟨V', r1, r2, fun c j h1 h2 h3 h4 => by rw [r3 c j h1 h2 h3 h4, zup_o (by omega), q3 c j h1 h2, zup_o (by omega)]⟩
theorem c_sur15_2 {I : zI} {ns : Nat} {T : Nat → Nat → Option (Nat × Nat)} (hT : wT ns T) (hC : cT I ns T) : ∀ (m k fuel : Nat) (V : zI), k + m = 2 * ns → m < fuel → V 141 4 = nI (2 * ns) → (∀ c j, (2 ≤ c ∧ c ≤ 6 ∨ 35 ≤ c ∧ c ≤ 37) → V c j = I c j) → (∀ p e, p < k → e < 4 → V (145 + p) e = zcm (T p e) ∧ V (162 + p) e = zhm (T p e)) → ∃ V', fc_Ways_survey_2_L15 fuel (nI k) V = some V' ∧ V' 141 4 = nI (2 * ns) ∧ zwsv V' 145 162 ns T ∧ ∀ c j, c ≠ 38 → c ≠ 39 → ¬ (145 ≤ c ∧ c < 145 + 16) → ¬ (162 ≤ c ∧ c < 162 + 16) → V' c j = V c j
  | 0, k, fuel, V, hk, hf, h4, hV, hd => by
    obtain ⟨f, rfl⟩ : ∃ f, fuel = f + 1 := ⟨fuel - 1, by omega⟩
    have hns := hT.1
    exact ⟨V, by rw [fc_Ways_survey_2_L15, h4, if_pos (nI_le (by omega) (by omega))], h4, fun p e hp he => hd p e (by omega) he, fun _ _ _ _ _ _ => rfl⟩
  | m + 1, k, fuel, V, hk, hf, h4, hV, hd => by
    obtain ⟨f, rfl⟩ : ∃ f, fuel = f + 1 := ⟨fuel - 1, by omega⟩
    have hns := hT.1
    obtain ⟨V1, r1, r2, r3⟩ := c_sur25_2 hT hC (fun (u9 : Int32) (J10 : zI) => fc_Ways_survey_2_L15 f (u9 + (1 : Int32)) J10) (p := k) (by omega) 4 0 100 V (by omega) (by omega) hV (fun e he => by omega)
    obtain ⟨V', s1, s2, s3, s4⟩ := c_sur15_2 hT hC m (k + 1) f V1 (by omega) (by omega) (by rw [r3 _ _ (by omega) (by omega) (by omega) (by omega)]; exact h4) (fun c j hc => by rw [r3 c j (by omega) (by omega) (by omega) (by omega)]; exact hV c j hc) (fun p e hp he => by
      by_cases hpk : p = k
      · subst hpk; exact r2 e he
      · rw [r3 _ _ (by omega) (by omega) (by omega) (by omega), r3 _ _ (by omega) (by omega) (by omega) (by omega)]
        exact hd p e (by omega) he)
    refine ⟨V', ?_, s2, s3, fun c j h1 h2 h3 h5 => by rw [s4 c j h1 h2 h3 h5, r3 c j h1 h2 (by omega) (by omega)]⟩
    rw [fc_Ways_survey_2_L15, h4, if_neg (nI_ge (by omega) (by omega)), show (0 : Int32) = nI 0 from rfl, r1]
    rw [nI_1]
    exact s1
theorem c_survey_2 {I : zI} {ns : Nat} {T : Nat → Nat → Option (Nat × Nat)} (hT : wT ns T) (hC : cT I ns T) : ∃ V', fc_Ways_survey_2 I = some V' ∧ V' 141 4 = nI (2 * ns) ∧ zwsv V' 145 162 ns T ∧ ∀ c j, c ≠ 38 → c ≠ 39 → ¬ (c = 141 ∧ j = 4) → ¬ (145 ≤ c ∧ c < 145 + 16) → ¬ (162 ≤ c ∧ c < 162 + 16) → V' c j = I c j := by
  have hns := hT.1
  obtain ⟨V', s1, s2, s3, s4⟩ := c_sur15_2 hT hC (2 * ns) 0 100 (zup I 141 4 (nI (2 * ns))) (by omega) (by omega) zup_y (fun c j hc => zup_o (by omega)) (fun p e hp he => by omega)
  refine ⟨V', ?_, s2, s3, fun c j h1 h2 h3 h4 h5 => by rw [s4 c j h1 h2 h4 h5, zup_o (by omega)]⟩
  unfold fc_Ways_survey_2
  rw [hC.1, show (2 : Int32) * nI ns = nI (2 * ns) from zl_mul 2 ns]
  exact s1
theorem c_near_L_2 {V : zI} {ns left : Nat} {L : Nat → Option Nat} (hns : ns ≤ 8) (h4 : V 141 4 = nI (2 * ns)) (hL : ∀ p, p < 16 → V 142 p = zov (L p)) (hb : ∀ p d, L p = some d → d ≤ 15984) (hl : left < 65536) : ∀ (m k fuel : Nat) (b : Option Nat), k + m = 2 * ns → m < fuel → znr L left b k → ∃ b', fc_Ways_nearest_2_L4 V fuel (nI left) (zov b) (nI k) = some (zov b') ∧ znr L left b' (2 * ns) := by
  intro m
  induction m with
  | zero =>
    intro k fuel b hk hf hz
    obtain ⟨f, rfl⟩ : ∃ f, fuel = f + 1 := ⟨fuel - 1, by omega⟩
    refine ⟨b, by rw [fc_Ways_nearest_2_L4, h4, if_pos (nI_le (by omega) (by omega))], ?_⟩
    rw [show 2 * ns = k by omega]; exact hz
  | succ m ih =>
    intro k fuel b hk hf hz
    obtain ⟨f, rfl⟩ : ∃ f, fuel = f + 1 := ⟨fuel - 1, by omega⟩
    have hbit := zshr_b (x := left) (j := k) hl (by omega)
    rw [fc_Ways_nearest_2_L4, h4, if_neg (nI_ge (by omega) (by omega)), nI_1]
    by_cases ht : left.testBit k = true
    · rw [if_pos (hbit.mpr ht), zl_b (by omega), show decide (k < 16) = true from decide_eq_true (by omega), zl_cl k (by omega), hL k (by omega)]
      simp only [z_guard, if_true]
      cases e : L k with
      | none =>
        rw [if_pos (show zov none < 0 by decide)]
        refine ih (k + 1) f b (by omega) (by omega) ?_
        cases b with
        | none =>
          intro q hq hq2
          by_cases hqk : q = k
          · rw [hqk]; exact e
          · exact hz q (by omega) hq2
        | some p =>
          obtain ⟨z1, z2, c, z3, z4⟩ := hz
          refine ⟨by omega, z2, c, z3, fun q d hq hq2 hd => ?_⟩
          by_cases hqk : q = k
          · rw [hqk, e] at hd; cases hd
          · exact z4 q d (by omega) hq2 hd
      | some d0 =>
        have hd0 := hb k d0 e
        rw [if_neg (show ¬ zov (some d0) < 0 from nI_pos (by omega))]
        cases b with
        | none =>
          rw [if_pos (show zov none = -1 from rfl)]
          refine ih (k + 1) f (some k) (by omega) (by omega) ⟨by omega, ht, d0, e, fun q d hq hq2 hd => ?_⟩
          by_cases hqk : q = k
          · rw [hqk, e] at hd; cases hd; exact Nat.le_refl _
          · have := hz q (by omega) hq2
            rw [this] at hd; cases hd
        | some p =>
          obtain ⟨z1, z2, c, z3, z4⟩ := hz
          have hc := hb p c z3
          rw [if_neg (show ¬ zov (some p) = -1 by rw [show zov (some p) = nI p from rfl, zl_eqm1 (by omega)]; exact id), show zov (some p) = nI p from rfl, zl_b (by omega), show decide (p < 16) = true from decide_eq_true (by omega), zl_cl p (by omega), hL p (by omega), z3]
          simp only [if_true]
          by_cases hcd : c ≤ d0
          · rw [if_pos (show zov (some c) ≤ zov (some d0) from nI_le hcd (by omega))]
            refine ih (k + 1) f (some p) (by omega) (by omega) ⟨by omega, z2, c, z3, fun q d hq hq2 hd => ?_⟩
            by_cases hqk : q = k
            · rw [hqk, e] at hd; cases hd; exact hcd
            · exact z4 q d (by omega) hq2 hd
          · rw [if_neg (show ¬ zov (some c) ≤ zov (some d0) from nI_ge (by omega) (by omega))]
            refine ih (k + 1) f (some k) (by omega) (by omega) ⟨by omega, ht, d0, e, fun q d hq hq2 hd => ?_⟩
            by_cases hqk : q = k
            · rw [hqk, e] at hd; cases hd; exact Nat.le_refl _
            · have := z4 q d (by omega) hq2 hd
              omega
    · rw [if_neg (fun q => ht (hbit.mp q))]
      refine ih (k + 1) f b (by omega) (by omega) ?_
      cases b with
      | none =>
        intro q hq hq2
        by_cases hqk : q = k
        · rw [hqk] at hq2; exact absurd hq2 ht
        · exact hz q (by omega) hq2
      | some p =>
        obtain ⟨z1, z2, c, z3, z4⟩ := hz
        refine ⟨by omega, z2, c, z3, fun q d hq hq2 hd => ?_⟩
        by_cases hqk : q = k
        · rw [hqk] at hq2; exact absurd hq2 ht
        · exact z4 q d (by omega) hq2 hd
theorem c_spr70_2 {ns : Nat} {T : Nat → Nat → Option (Nat × Nat)} (hT : wT ns T) {a cur c N : Nat} {P : Nat → Nat → Prop} (ha : a < 2 * ns) (hcur : cur < 2 * ns) (hN : c + 999 ≤ N) (hN2 : N ≤ 15984) (K : Int32 → Int32 → Int32 → zI → Option zI) (v2 v3 : Int32) : ∀ (m k fuel : Nat) (V : zI) (L : Nat → Option Nat) (F : Nat → Nat), k + m = 4 → m < fuel → zwsv V 145 162 ns T → zwst V 142 L F → zJ ns T a c N (fun p e => P p e ∨ (p = cur ∧ e < k)) L F → L cur = some c → ∃ V' L' F', fc_Ways_spread_2_L70 K fuel (nI a) v2 v3 (nI cur) (nI k) V = K (nI a) v2 v3 V' ∧ zwst V' 142 L' F' ∧ zJ ns T a c N (fun p e => P p e ∨ (p = cur ∧ e < 4)) L' F' ∧ (∀ q d, L' q = some d → L q = some d ∨ c ≤ d) ∧ ∀ x j, x ≠ 142 → x ≠ 143 → V' x j = V x j := by
  have hns := hT.1
  intro m
  induction m with
  | zero =>
    intro k fuel V L F hk hf hs ht hJ hc
    obtain ⟨f, rfl⟩ : ∃ f, fuel = f + 1 := ⟨fuel - 1, by omega⟩
    have hk4 : k = 4 := by omega
    subst hk4
    exact ⟨V, L, F, by rw [fc_Ways_spread_2_L70, if_pos (show (4 : Int32) ≤ nI 4 by decide)], ht, hJ, fun q d hq => Or.inl hq, fun _ _ _ _ => rfl⟩
  | succ m ih =>
    intro k fuel V L F hk hf hs ht hJ hc
    obtain ⟨f, rfl⟩ : ∃ f, fuel = f + 1 := ⟨fuel - 1, by omega⟩
    have hPn : ∀ p e, (P p e ∨ (p = cur ∧ e < k + 1)) ↔ (P p e ∨ (p = cur ∧ e < k)) ∨ (p = cur ∧ e = k) := fun p e => by
      constructor
      · rintro (h | ⟨h1, h2⟩)
        · exact Or.inl (Or.inl h)
        · by_cases hek : e = k
          · exact Or.inr ⟨h1, hek⟩
          · exact Or.inl (Or.inr ⟨h1, by omega⟩)
      · rintro ((h | ⟨h1, h2⟩) | ⟨h1, h2⟩)
        · exact Or.inl h
        · exact Or.inr ⟨h1, by omega⟩
        · exact Or.inr ⟨h1, by omega⟩
    obtain ⟨s1, s2⟩ := hs cur k hcur (by omega)
    have h4 : ¬ (4 : Int32) ≤ nI k := nI_ge (b := 4) (by omega) (by omega)
    have hgo : ∀ fv, fv < 16 → (∀ j, j < 4 → (fv.testBit j = true ↔ (cur = a ∧ k = j ∨ cur ≠ a ∧ (F cur).testBit j = true))) → ∃ V' L' F', (if V (145 + cur) k = -1 then fc_Ways_spread_2_L70 K f (nI a) v2 v3 (nI cur) (nI (k + 1)) V else (fc_Ways_comeTo_2 V (V (145 + cur) k) (V 142 cur + V (162 + cur) k) (nI fv)).bind fun r => fc_Ways_spread_2_L70 K f (nI a) v2 v3 (nI cur) (nI (k + 1)) r) = K (nI a) v2 v3 V' ∧ zwst V' 142 L' F' ∧ zJ ns T a c N (fun p e => P p e ∨ (p = cur ∧ e < 4)) L' F' ∧ (∀ q d, L' q = some d → L q = some d ∨ c ≤ d) ∧ ∀ x j, x ≠ 142 → x ≠ 143 → V' x j = V x j := by
      intro fv hf16 hfv
      rw [s1, s2, (ht cur (by omega)).1, hc]
      cases eT : T cur k with
      | none =>
        rw [if_pos (show zcm none = -1 from rfl)]
        exact ih (k + 1) f V L F (by omega) (by omega) hs ht (zJ_no hJ hPn hcur (by omega) hc (fun q h0 e => by rw [eT] at e; cases e)) hc
      | some qh =>
        obtain ⟨q, h0⟩ := qh
        have hq2 := hT.2 cur k (q, h0) hcur (by omega) eT
        simp only at hq2
        rw [if_neg (show ¬ zcm (some (q, h0)) = -1 by rw [show zcm (some (q, h0)) = nI q from rfl, zl_eqm1 (by omega)]; exact id), show zcm (some (q, h0)) = nI q from rfl, show zov (some c) + zhm (some (q, h0)) = nI (c + h0) from zl_add c h0]
        unfold fc_Ways_comeTo_2
        rw [zl_b (by omega), show decide (q < 16) = true from decide_eq_true (by omega), zl_cl q (by omega), (ht q (by omega)).1, (ht q (by omega)).2]
        simp only [z_guard, if_true]
        have hset : (∀ d, L q = some d → c + h0 < d) → ∃ V' L' F', fc_Ways_spread_2_L70 K f (nI a) v2 v3 (nI cur) (nI (k + 1)) (zup (zup V 142 q (nI (c + h0))) 143 q (nI fv)) = K (nI a) v2 v3 V' ∧ zwst V' 142 L' F' ∧ zJ ns T a c N (fun p e => P p e ∨ (p = cur ∧ e < 4)) L' F' ∧ (∀ q d, L' q = some d → L q = some d ∨ c ≤ d) ∧ ∀ x j, x ≠ 142 → x ≠ 143 → V' x j = V x j := fun hlt => by
          have hqc : cur ≠ q := fun e => by subst e; have := hlt c hc; omega
          obtain ⟨V', L', F', r1, r2, r3, r4, r5⟩ := ih (k + 1) f (zup (zup V 142 q (nI (c + h0))) 143 q (nI fv)) (vup L q (some (c + h0))) (vup F q fv) (by omega) (by omega) (fun p e hp he => by rw [zup_o (by omega), zup_o (by omega), zup_o (by omega), zup_o (by omega)]; exact hs p e hp he) (fun p hp => by
            by_cases hpq : p = q
            · subst hpq
              rw [zup_o (by omega), zup_y, vup_s, vup_s]
              exact ⟨rfl, zup_y⟩
            · rw [zup_o (by omega), zup_o (by omega), zup_o (by omega), zup_o (by omega), vup_n hpq, vup_n hpq]
              exact ht p hp) (zJ_set hT hJ hPn hcur (by omega) hc eT hlt hN hf16 hfv) (by rw [vup_n hqc]; exact hc)
          refine ⟨V', L', F', r1, r2, r3, fun x d hx => ?_, fun x j h1 h2 => by rw [r5 x j h1 h2, zup_o (by omega), zup_o (by omega)]⟩
          rcases r4 x d hx with h | h
          · by_cases hxq : x = q
            · subst hxq
              rw [vup_s] at h
              cases h
              exact Or.inr (by omega)
            · rw [vup_n hxq] at h
              exact Or.inl h
          · exact Or.inr h
        cases eL : L q with
        | none =>
          rw [if_pos (show zov none < 0 by decide), Option.bind_some]
          exact hset (fun d hd => by rw [eL] at hd; cases hd)
        | some d0 =>
          have hd0 := (hJ.2.1 q d0 eL).2
          rw [if_neg (show ¬ zov (some d0) < 0 from nI_pos (by omega))]
          by_cases hle : d0 ≤ c + h0
          · rw [if_pos (show zov (some d0) ≤ nI (c + h0) from nI_le hle (by omega))]
            by_cases heq : c + h0 = d0
            · rw [if_pos (show nI (c + h0) = zov (some d0) by rw [heq]; rfl), Option.bind_some, zl_or]
              obtain ⟨V', L', F', r1, r2, r3, r4, r5⟩ := ih (k + 1) f (zup V 143 q (nI (F q ||| fv))) L (vup F q (F q ||| fv)) (by omega) (by omega) (fun p e hp he => by rw [zup_o (by omega), zup_o (by omega)]; exact hs p e hp he) (fun p hp => by
                by_cases hpq : p = q
                · subst hpq
                  rw [zup_o (by omega), vup_s]
                  exact ⟨(ht p hp).1, zup_y⟩
                · rw [zup_o (by omega), zup_o (by omega), vup_n hpq]
                  exact ht p hp) (zJ_tie hT hJ hPn hcur (by omega) hc eT (by rw [eL, heq]) hf16 hfv) hc
              exact ⟨V', L', F', r1, r2, r3, r4, fun x j h1 h2 => by rw [r5 x j h1 h2, zup_o (by omega)]⟩
            · rw [if_neg (show ¬ nI (c + h0) = zov (some d0) from fun e => heq ((nI_eq (by omega) (by omega)).mp e)), Option.bind_some]
              exact ih (k + 1) f V L F (by omega) (by omega) hs ht (zJ_no hJ hPn hcur (by omega) hc (fun q2 h2 e => by
                rw [eT] at e
                cases e
                exact ⟨d0, eL, by omega⟩)) hc
          · rw [if_neg (show ¬ zov (some d0) ≤ nI (c + h0) from nI_ge (by omega) (by omega)), Option.bind_some]
            exact hset (fun d hd => by rw [eL] at hd; cases hd; omega)
    rw [fc_Ways_spread_2_L70, if_neg h4, zl_b (by omega), zl_b (by omega), show decide (cur < 16) = true from decide_eq_true (by omega), show decide (k < 4) = true from decide_eq_true (by omega), zl_cl cur (by omega), zl_cl k (by omega), nI_1]
    simp only [z_guard, if_true]
    by_cases hca : cur = a
    · rw [if_pos (show nI cur = nI a by rw [hca]), zshl2 k (by omega)]
      exact hgo (2 ^ k) (Nat.pow_lt_pow_right (n := 4) (by omega) (by omega)) (fun j hj => by
        rw [Nat.testBit_two_pow, decide_eq_true_eq]
        exact ⟨fun h => Or.inl ⟨hca, h⟩, fun h => by rcases h with h | h; exact h.2; exact absurd hca h.1⟩)
    · rw [if_neg (show ¬ nI cur = nI a from fun e => hca ((nI_eq (by omega) (by omega)).mp e)), (ht cur (by omega)).2]
      exact hgo (F cur) (hJ.2.2.2.2.2.1 cur) (fun j hj => ⟨fun h => Or.inr ⟨hca, h⟩, fun h => by rcases h with h | h; exact absurd h.1 hca; exact h.2⟩)
theorem c_spr34_2 {ns : Nat} {T : Nat → Nat → Option (Nat × Nat)} (hT : wT ns T) {a : Nat} (ha : a < 2 * ns) : ∀ (m i fuel : Nat) (V : zI) (L : Nat → Option Nat) (F : Nat → Nat) (left c : Nat), i + m = 2 * ns → m < fuel → V 141 4 = nI (2 * ns) → zwsv V 145 162 ns T → zwst V 142 L F → zJ ns T a c (999 * i) (fun p e => p < 2 * ns ∧ e < 4 ∧ left.testBit p = false) L F → (∀ q d, left.testBit q = true → L q = some d → c ≤ d) → left < 65536 → zsum (fun q => left.testBit q) (fun _ => 1) (2 * ns) + i = 2 * ns → ∃ V' L' F', fc_Ways_spread_2_L34 fuel (nI a) (nI left) (nI i) V = some V' ∧ zwst V' 142 L' F' ∧ zds ns T a L' ∧ zFs ns T a L' F' ∧ ∀ x j, x ≠ 142 → x ≠ 143 → V' x j = V x j := by
  have hns := hT.1
  intro m
  induction m with
  | zero =>
    intro i fuel V L F left c hi hf h4 hs ht hJ hlow hl hsum
    obtain ⟨f, rfl⟩ : ∃ f, fuel = f + 1 := ⟨fuel - 1, by omega⟩
    have hz := zsum_zero (2 * ns) (show zsum (fun q => left.testBit q) (fun _ => 1) (2 * ns) = 0 by omega)
    have hE := zJ_end hJ (by omega) (fun p d e hp he => ⟨(hJ.2.1 p d hp).1, he, hz p (hJ.2.1 p d hp).1⟩)
    exact ⟨V, L, F, by rw [fc_Ways_spread_2_L34, h4, if_pos (nI_le (by omega) (by omega))], ht, hE.1, hE.2, fun _ _ _ _ => rfl⟩
  | succ m ih =>
    intro i fuel V L F left c hi hf h4 hs ht hJ hlow hl hsum
    obtain ⟨f, rfl⟩ : ∃ f, fuel = f + 1 := ⟨fuel - 1, by omega⟩
    obtain ⟨b, n1, n2⟩ := c_near_L_2 hns h4 (fun p hp => (ht p hp).1) (fun p d hd => by have := (hJ.2.1 p d hd).2; omega) hl (2 * ns) 0 100 none (by omega) (by omega) (fun q hq => by omega)
    have n1 : fc_Ways_nearest_2 V (nI left) = some (zov b) := n1
    rw [fc_Ways_spread_2_L34, h4, if_neg (nI_ge (by omega) (by omega)), n1, Option.bind_some]
    cases b with
    | none =>
      rw [if_pos (show zov none = -1 from rfl)]
      have hE := zJ_end hJ (by omega) (fun p d e hp he => ⟨(hJ.2.1 p d hp).1, he, by
        cases hbp : left.testBit p with
        | false => rfl
        | true =>
          have := n2 p (hJ.2.1 p d hp).1 hbp
          rw [hp] at this; cases this⟩)
      exact ⟨V, L, F, rfl, ht, hE.1, hE.2, fun _ _ _ _ => rfl⟩
    | some cur =>
      obtain ⟨z1, z2, c', z3, z4⟩ := n2
      have hcc := hlow cur c' z2 z3
      have hc9 := (hJ.2.1 cur c' z3).2
      have hl2 : left ^^^ (left &&& 2 ^ cur) < 65536 := Nat.xor_lt_two_pow (n := 16) hl (Nat.lt_of_le_of_lt Nat.and_le_left hl)
      have hrm := zsum_rm (P := fun q => left.testBit q) (P' := fun q => (left ^^^ (left &&& 2 ^ cur)).testBit q) (cur := cur) (fun q => zrm_bit left cur q) z2 (2 * ns) z1
      rw [if_neg (show ¬ zov (some cur) = -1 by rw [show zov (some cur) = nI cur from rfl, zl_eqm1 (by omega)]; exact id), show zov (some cur) = nI cur from rfl, zshl2 cur (by omega), zandnot]
      obtain ⟨V1, L1, F1, r1, r2, r3, r4, r5⟩ := c_spr70_2 hT (P := fun p e => p < 2 * ns ∧ e < 4 ∧ left.testBit p = false) ha z1 (show c' + 999 ≤ 999 * (i + 1) by omega) (by omega) (fun (u18 : Int32) (u19 : Int32) (u20 : Int32) (J21 : zI) => fc_Ways_spread_2_L34 f u18 u19 (u20 + (1 : Int32)) J21) (nI (left ^^^ (left &&& 2 ^ cur))) (nI i) 4 0 100 V L F (by omega) (by omega) hs ht (zJ_cg (zJ_mono hJ hcc (show 999 * i ≤ 999 * (i + 1) by omega)) (fun p e => ⟨fun h => by rcases h with h | h; exact h; exact absurd h.2 (by omega), Or.inl⟩)) z3
      rw [show (0 : Int32) = nI 0 from rfl, r1]
      rw [nI_1]
      obtain ⟨V', L', F', q1, q2, q3, q4, q5⟩ := ih (i + 1) f V1 L1 F1 (left ^^^ (left &&& 2 ^ cur)) c' (by omega) (by omega) (by rw [r5 _ _ (by omega) (by omega)]; exact h4) (fun p e hp he => by rw [r5 _ _ (by omega) (by omega), r5 _ _ (by omega) (by omega)]; exact hs p e hp he) r2 (zJ_cg r3 (fun p e => by
        rw [zrm_bit left cur p]
        constructor
        · rintro ⟨h1, h2, h3⟩
          by_cases hcp : cur = p
          · exact Or.inr ⟨hcp.symm, h2⟩
          · rw [decide_eq_false hcp, Bool.not_false, Bool.and_true] at h3
            exact Or.inl ⟨h1, h2, h3⟩
        · rintro (⟨h1, h2, h3⟩ | ⟨h1, h2⟩)
          · exact ⟨h1, h2, by rw [h3]; rfl⟩
          · exact ⟨by omega, h2, by rw [decide_eq_true h1.symm, Bool.not_true, Bool.and_false]⟩)) (fun q d hq hd => by
        rw [zrm_bit left cur q, Bool.and_eq_true] at hq
        rcases r4 q d hd with h | h
        · exact z4 q d (hJ.2.1 q d h).1 hq.1 h
        · exact h) hl2 (by omega)
      exact ⟨V', L', F', q1, q2, q3, q4, fun x j h1 h2 => by rw [q5 x j h1 h2, r5 x j h1 h2]⟩
theorem c_spread_2 {I : zI} {ns : Nat} {T : Nat → Nat → Option (Nat × Nat)} (hT : wT ns T) {a : Nat} (ha : a < 2 * ns) (h4 : I 141 4 = nI (2 * ns)) (hs : zwsv I 145 162 ns T) : ∃ V' L' F', fc_Ways_spread_2 I (nI a) = some V' ∧ zwst V' 142 L' F' ∧ zds ns T a L' ∧ zFs ns T a L' F' ∧ ∀ x j, x ≠ 142 → x ≠ 143 → V' x j = I x j := by
  have hns := hT.1
  have hpw : 2 ^ (2 * ns) ≤ 2 ^ 16 := Nat.pow_le_pow_right (by omega) (by omega)
  have hp0 : 0 < 2 ^ (2 * ns) := Nat.two_pow_pos _
  obtain ⟨V', L', F', q1, q2, q3, q4, q5⟩ := c_spr34_2 hT ha (2 * ns) 0 100 (zup (zfill (zfill I 142 16 (-1 : Int32)) 143 16 (0 : Int32)) 142 a (0 : Int32)) (vup (fun _ => none) a (some 0)) (fun _ => 0) (2 ^ (2 * ns) - 1) 0 (by omega) (by omega) (by rw [zup_o (by omega), zfi_o (by omega), zfi_o (by omega)]; exact h4) (fun p e hp he => by
    rw [zup_o (by omega), zfi_o (by omega), zfi_o (by omega), zup_o (by omega), zfi_o (by omega), zfi_o (by omega)]
    exact hs p e hp he) (fun p hp => by
    by_cases hpa : p = a
    · subst hpa
      rw [zup_y, zup_o (by omega), zfi_y hp, vup_s]
      exact ⟨rfl, rfl⟩
    · rw [zup_o (by omega), zfi_o (by omega), zfi_y hp, zup_o (by omega), zfi_y hp, vup_n hpa]
      exact ⟨rfl, rfl⟩) (by
    have hno : ∀ p e, ¬ (p < 2 * ns ∧ e < 4 ∧ (2 ^ (2 * ns) - 1).testBit p = false) := fun p e hh => by
      obtain ⟨h1, h2, h3⟩ := hh
      rw [Nat.testBit_two_pow_sub_one, decide_eq_true h1] at h3
      cases h3
    have hL : ∀ q d, vup (fun _ => none) a (some 0) q = some d → q = a ∧ d = 0 := fun q d hq => by
      by_cases hqa : q = a
      · subst hqa
        rw [vup_s] at hq
        cases hq
        exact ⟨rfl, rfl⟩
      · rw [vup_n hqa] at hq
        cases hq
    refine ⟨vup_s, fun p d hp => ?_, fun p e hp => absurd hp (hno p e), fun p e q h d hp => absurd hp (hno p e), fun q d hq hd => absurd (hL q d hd).1 hq, fun _ => by show 0 < 16; omega, fun q j hj => ?_⟩
    · obtain ⟨rfl, rfl⟩ := hL p d hp
      exact ⟨ha, by omega⟩
    · constructor
      · intro h
        rw [Nat.zero_testBit] at h
        cases h
      · rintro ⟨_, p, e, h, d, d', k1, _⟩
        exact absurd k1 (hno p e)) (fun q d hq hd => Nat.zero_le _) (by omega) (by
    rw [zsum_all (2 * ns) (fun q hq => by rw [Nat.testBit_two_pow_sub_one, decide_eq_true hq])]; rfl)
  refine ⟨V', L', F', ?_, q2, q3, q4, fun x j h1 h2 => by rw [q5 x j h1 h2, zup_o (by omega), zfi_o (by omega), zfi_o (by omega)]⟩
  unfold fc_Ways_spread_2
  rw [zl_b (by omega), show decide (a < 16) = true from decide_eq_true (by omega), zl_cl a (by omega), show (zfill (zfill I 142 16 (-1 : Int32)) 143 16 (0 : Int32)) 141 4 = nI (2 * ns) by rw [zfi_o (by omega), zfi_o (by omega)]; exact h4, zshl1 (2 * ns) (by omega)]
  exact q1
