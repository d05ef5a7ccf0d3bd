/-! rims -/
def zany (P : Nat → Bool) : Nat → Bool
  | 0 => false
  | n + 1 => zany P n || P n
theorem zany_i {P : Nat → Bool} : ∀ n, zany P n = true ↔ ∃ i, i < n ∧ P i = true
  | 0 => ⟨fun h => (by cases h), fun ⟨i, h, _⟩ => absurd h (Nat.not_lt_zero i)⟩
  | n + 1 => by
    rw [zany, Bool.or_eq_true, zany_i n]
    constructor
    · rintro (⟨i, h1, h2⟩ | h)
      · exact ⟨i, by omega, h2⟩
      · exact ⟨n, by omega, h⟩
    · rintro ⟨i, h1, h2⟩
      by_cases e : i = n
      · subst e; exact Or.inr h2
      · exact Or.inl ⟨i, by omega, h2⟩
theorem zshl32 : ∀ k, k < 32 → (1 : Int32) <<< (nI k &&& 31) = nI (2 ^ k) := by decide +kernel
theorem jv_m1 {o : Option Nat} (h : ∀ j, o = some j → j < 16) : (jv o = -1) ↔ o = none := by
  cases o with
  | none => exact ⟨fun _ => rfl, fun _ => rfl⟩
  | some j =>
    have := h j rfl
    exact ⟨fun e => (by rw [show jv (some j) = nI j from rfl, zl_eqm1 (by omega)] at e; exact e.elim), fun e => (by cases e)⟩
theorem jv_ge {o : Option Nat} (h : ∀ j, o = some j → j < 16) : (0 ≤ jv o) ↔ ¬ o = none := by
  cases o with
  | none => exact ⟨fun e => (by revert e; decide), fun e => absurd rfl e⟩
  | some j =>
    have := h j rfl
    exact ⟨fun _ e => (by cases e), fun _ => nI_pos' (by omega)⟩
theorem c_ring {V : zI} {N : Nat} {f : Nat → Nat} {jt : Nat → Option Nat} (hN : N ≤ 32) (h : ∀ i, i < N → V 102 i = nI (f i) ∧ f i < 32 ∧ V 6 i = jv (jt i)) (hj : ∀ e j, jt e = some j → j < 16) : ∀ (m k fuel R : Nat), k + m = N → m < fuel → R < 4294967296 → (∀ c, R.testBit c = true ↔ ∃ e, e < k ∧ jt e = none ∧ f e = c) → ∃ R' : Nat, (∀ c, R'.testBit c = true ↔ ∃ e, e < N ∧ jt e = none ∧ f e = c) ∧ fc_Shape_rims_L50 fuel (nI N) (nI R) (nI k) V = some (nI (zsum (fun q => R'.testBit q) (fun _ => 1) 32), V)
  | 0, k, fuel, R, hk, hf, hR, hb => by
    obtain ⟨F, rfl⟩ : ∃ g, fuel = g + 1 := ⟨fuel - 1, by omega⟩
    have : k = N := by omega
    subst this
    refine ⟨R, hb, ?_⟩
    rw [fc_Shape_rims_L50, if_pos (nI_le (by omega) (by omega)), c_bits32 V hR]
    rfl
  | m + 1, k, fuel, R, hk, hf, hR, hb => by
    obtain ⟨F, rfl⟩ : ∃ g, fuel = g + 1 := ⟨fuel - 1, by omega⟩
    obtain ⟨h1, h2, h3⟩ := h k (by omega)
    have hm := jv_m1 (hj k)
    rw [fc_Shape_rims_L50, if_neg (nI_ge (by omega) (by omega)), zl_b (by omega), show decide (k < 32) = true from decide_eq_true (by omega), zl_cl k (by omega), h1, h3, nI_1]
    simp only [z_guard, if_true]
    by_cases e : jt k = none
    · rw [if_pos (hm.mpr e), zshl32 _ h2, zl_or]
      obtain ⟨R', r1, r2⟩ := c_ring hN h hj m (k + 1) F (R ||| 2 ^ f k) (by omega) (by omega) (Nat.or_lt_two_pow (n := 32) hR (Nat.pow_lt_pow_right (n := 32) (by omega) h2)) (fun c => by
        rw [Nat.testBit_or, Bool.or_eq_true, hb c, Nat.testBit_two_pow, decide_eq_true_eq]
        constructor
        · rintro (⟨e1, q1, q2⟩ | q)
          · exact ⟨e1, by omega, q2⟩
          · exact ⟨k, by omega, e, q⟩
        · rintro ⟨e1, q1, q2, q3⟩
          by_cases q4 : e1 = k
          · subst q4; exact Or.inr q3
          · exact Or.inl ⟨e1, by omega, q2, q3⟩)
      exact ⟨R', r1, r2⟩
    · rw [if_neg (fun q => e (hm.mp q))]
      obtain ⟨R', r1, r2⟩ := c_ring hN h hj m (k + 1) F R (by omega) (by omega) hR (fun c => by
        rw [hb c]
        constructor
        · rintro ⟨e1, q1, q2⟩
          exact ⟨e1, by omega, q2⟩
        · rintro ⟨e1, q1, q2, q3⟩
          have : e1 ≠ k := fun q => by subst q; exact e q2
          exact ⟨e1, by omega, q2, q3⟩)
      exact ⟨R', r1, r2⟩
def zrq (jt : Nat → Option Nat) (g : Nat → Nat) (c e : Nat) : Bool := (jt e).isNone && g e == c
theorem m_ring58 {U : zI} {N c : Nat} {g : Nat → Nat} {jt : Nat → Option Nat} (hN : N ≤ 32) (hc : c < 32) (h : ∀ i, i < N → U 4 i = nI (g i) ∧ g i < 32 ∧ fm_joinAt U (nI i) = some (jv (jt i))) (hj : ∀ e j, jt e = some j → j < 16) (K : Int32 → Int32 → Int32 → Int32 → zI → Option (Int32 × zI)) (v2 : Int32) : ∀ (m k fuel : Nat), k + m = N → m < fuel → fm_rims_L58 K fuel (nI N) v2 (nI c) (if zany (zrq jt g c) k then 1 else 0) (nI k) U = K (nI N) v2 (nI c) (if zany (zrq jt g c) N then 1 else 0) U
  | 0, k, fuel, hk, hf => by
    obtain ⟨F, rfl⟩ : ∃ g, fuel = g + 1 := ⟨fuel - 1, by omega⟩
    rw [fm_rims_L58, if_pos (nI_le (by omega) (by omega)), show k = N by omega]
  | m + 1, k, fuel, hk, hf => by
    obtain ⟨F, rfl⟩ : ∃ g, fuel = g + 1 := ⟨fuel - 1, by omega⟩
    obtain ⟨h1, h2, h3⟩ := h k (by omega)
    have hg := jv_ge (hj k)
    have i1 := m_ring58 hN hc h hj K v2 m (k + 1) F (by omega) (by omega)
    rw [zany] at i1
    have f1 : (if true = true then (1 : Int32) else 0) = 1 := if_pos rfl
    have f0 : (if false = true then (1 : Int32) else 0) = 0 := if_neg (by decide)
    rw [fm_rims_L58, if_neg (nI_ge (by omega) (by omega)), h3, zl_b (by omega), show decide (k < 32) = true from decide_eq_true (by omega), zl_cl k (by omega), h1, nI_1]
    simp only [z_guard, Option.bind_some]
    cases e0 : zany (zrq jt g c) k with
    | true =>
      rw [e0, Bool.true_or, f1] at i1
      rw [f1, if_neg z10]
      exact i1
    | false =>
      rw [e0, Bool.false_or] at i1
      rw [f0, if_pos rfl]
      by_cases e : jt k = none
      · rw [if_neg (fun q => hg.mp q e), if_pos trivial]
        by_cases e2 : g k = c
        · rw [show zrq jt g c k = true by unfold zrq; rw [e, e2]; simp, f1] at i1
          rw [if_pos (show nI (g k) = nI c by rw [e2])]
          exact i1
        · rw [show zrq jt g c k = false by unfold zrq; rw [e]; simp [e2], f0] at i1
          rw [if_neg (show ¬ nI (g k) = nI c from fun q => e2 ((nI_eq (by omega) (by omega)).mp q))]
          exact i1
      · rw [show zrq jt g c k = false by
          unfold zrq
          cases e3 : jt k with
          | none => exact absurd e3 e
          | some j => rfl, f0] at i1
        rw [if_pos (hg.mpr e)]
        exact i1
theorem m_ring47 {U : zI} {N : Nat} {g : Nat → Nat} {jt : Nat → Option Nat} (hN : N ≤ 32) (h : ∀ i, i < N → U 4 i = nI (g i) ∧ g i < 32 ∧ fm_joinAt U (nI i) = some (jv (jt i))) (hj : ∀ e j, jt e = some j → j < 16) : ∀ (m k fuel : Nat), k + m = N → m < fuel → fm_rims_L47 fuel (nI N) (nI (zsum (fun c => zany (zrq jt g c) N) (fun _ => 1) k)) (nI k) U = some (nI (zsum (fun c => zany (zrq jt g c) N) (fun _ => 1) N), U)
  | 0, k, fuel, hk, hf => by
    obtain ⟨F, rfl⟩ : ∃ g, fuel = g + 1 := ⟨fuel - 1, by omega⟩
    rw [fm_rims_L47, if_pos (nI_le (by omega) (by omega)), show k = N by omega]
  | m + 1, k, fuel, hk, hf => by
    obtain ⟨F, rfl⟩ : ∃ g, fuel = g + 1 := ⟨fuel - 1, by omega⟩
    have i1 := m_ring47 hN h hj m (k + 1) F (by omega) (by omega)
    have r := m_ring58 hN (show k < 32 by omega) h hj (fun (u12 : Int32) (u13 : Int32) (u14 : Int32) (u15 : Int32) (J16 : zI) => if u15 = 0 then fm_rims_L47 F u12 (u13 + (0 : Int32)) (u14 + (1 : Int32)) J16 else fm_rims_L47 F u12 (u13 + (1 : Int32)) (u14 + (1 : Int32)) J16) (nI (zsum (fun c => zany (zrq jt g c) N) (fun _ => 1) k)) N 0 100 (by omega) (by omega)
    have r2 : fm_rims_L58 (fun (u12 : Int32) (u13 : Int32) (u14 : Int32) (u15 : Int32) (J16 : zI) => if u15 = 0 then fm_rims_L47 F u12 (u13 + (0 : Int32)) (u14 + (1 : Int32)) J16 else fm_rims_L47 F u12 (u13 + (1 : Int32)) (u14 + (1 : Int32)) J16) 100 (nI N) (nI (zsum (fun c => zany (zrq jt g c) N) (fun _ => 1) k)) (nI k) (0 : Int32) (0 : Int32) U = _ := r
    rw [fm_rims_L47, if_neg (nI_ge (by omega) (by omega)), r2, nI_1, nI_1, Int32.add_zero]
    have f1 : (if true = true then (1 : Int32) else 0) = 1 := if_pos rfl
    have f0 : (if false = true then (1 : Int32) else 0) = 0 := if_neg (by decide)
    cases e : zany (zrq jt g k) N with
    | true =>
      rw [f1, if_neg z10]
      rw [zsum_1 (p := fun c => zany (zrq jt g c) N) (n := k) e] at i1
      exact i1
    | false =>
      rw [f0, if_pos rfl]
      rw [zsum_0 (p := fun c => zany (zrq jt g c) N) (n := k) e] at i1
      exact i1
theorem zrim_L {ns nj N : Nat} {cs ea eb tt : Nat → Nat} (hG : wfG ns nj cs ea eb tt) (hN : N = 4 * ns) : ∀ (m k fC fM : Nat) (V U : zI) (f g : Nat → Nat), k + m = N → m < fC → m < fM → gC V ns nj cs ea eb tt → gM (U 1) ns nj cs ea eb tt → zcs N V U f g → ∃ V' U' f' g', fc_Shape_rims_L14 fC (nI N) (nI k) V = fc_Shape_rims_L50 100 (nI N) (0 : Int32) (0 : Int32) V' ∧ fm_rims_L15 fM (nI N) (nI k) U = fm_rims_L47 100 (nI N) (0 : Int32) (0 : Int32) U' ∧ zcs N V' U' f' g' ∧ (∀ c j, c ≠ 102 → V' c j = V c j) ∧ ∀ c j, c ≠ 4 → U' c j = U c j := by
  have hns := hG.1
  have hnj := hG.2.1
  have hj : ∀ e j, jn ea eb nj e = some j → j < 16 := fun e j h => by have := (jn_some h).1; omega
  intro m
  induction m with
  | zero =>
    intro k fC fM V U f g hk h1 h2 hV hU hz
    obtain ⟨fC, rfl⟩ : ∃ g, fC = g + 1 := ⟨fC - 1, by omega⟩
    obtain ⟨fM, rfl⟩ : ∃ g, fM = g + 1 := ⟨fM - 1, by omega⟩
    exact ⟨V, U, f, g, by rw [fc_Shape_rims_L14, if_pos (nI_le (by omega) (by omega))], by rw [fm_rims_L15, if_pos (nI_le (by omega) (by omega))], hz, fun _ _ _ => rfl, fun _ _ _ => rfl⟩
  | succ m ih =>
    intro k fC fM V U f g hk h1 h2 hV hU hz
    obtain ⟨fC, rfl⟩ : ∃ g, fC = g + 1 := ⟨fC - 1, by omega⟩
    obtain ⟨fM, rfl⟩ : ∃ g, fM = g + 1 := ⟨fM - 1, by omega⟩
    rw [fc_Shape_rims_L14, if_neg (nI_ge (by omega) (by omega)), zl_b (by omega), show decide (k < 32) = true from decide_eq_true (by omega), zl_cl k (by omega), hV.2.2.2.2 k (by omega), nI_1]
    rw [fm_rims_L15, if_neg (nI_ge (by omega) (by omega)), m_joinAt hG hU (by omega), Option.bind_some, nI_1]
    simp only [z_guard, if_true]
    by_cases e : jn ea eb nj k = none
    · rw [if_pos ((jv_m1 (hj k)).mpr e), if_neg (fun q => (jv_ge (hj k)).mp q e), c_sec V (by omega), m_sec U (by omega), Option.bind_some, Option.bind_some]
      have s1 := zsec_lt (e := k) (ns := ns) (by omega)
      obtain ⟨V1, U1, f1, g1, x1, x2, x3, x4, x5⟩ := zuni hns hN hz hU.1 (a := k) (b := zsec k) (by omega) (by omega)
      rw [x1, x2, Option.bind_some, Option.bind_some]
      obtain ⟨V', U', f', g', w1, w2, w3, w4, w5⟩ := ih (k + 1) fC fM V1 U1 f1 g1 (by omega) (by omega) (by omega) (gC_cg hV (fun c j h1 h2 => x4 c j (by omega))) (gM_cg ⟨hns, hnj⟩ hU (fun j _ => x5 1 j (by omega))) x3
      exact ⟨V', U', f', g', w1, w2, w3, fun c j hc => by rw [w4 c j hc, x4 c j hc], fun c j hc => by rw [w5 c j hc, x5 c j hc]⟩
    · rw [if_neg (fun q => e ((jv_m1 (hj k)).mp q)), if_pos ((jv_ge (hj k)).mpr e)]
      exact ih (k + 1) fC fM V U f g (by omega) (by omega) (by omega) hV hU hz
theorem zrings {N : Nat} {f g : Nat → Nat} {jt : Nat → Option Nat} {R : Nat} (hN : N ≤ 32) (h : zsm N f g) (hR : ∀ c, R.testBit c = true ↔ ∃ e, e < N ∧ jt e = none ∧ f e = c) : zsum (fun q => R.testBit q) (fun _ => 1) 32 = zsum (fun c => zany (zrq jt g c) N) (fun _ => 1) N := by
  have hq : ∀ c, zany (zrq jt g c) N = true ↔ ∃ e, e < N ∧ jt e = none ∧ g e = c := fun c => by
    rw [zany_i]
    constructor
    · rintro ⟨e, h1, h2⟩
      unfold zrq at h2
      rw [Bool.and_eq_true, Option.isNone_iff_eq_none, beq_iff_eq] at h2
      exact ⟨e, h1, h2⟩
    · rintro ⟨e, h1, h2⟩
      refine ⟨e, h1, ?_⟩
      unfold zrq
      rw [Bool.and_eq_true, Option.isNone_iff_eq_none, beq_iff_eq]
      exact h2
  obtain ⟨a1, a2, a3⟩ := h
  have fg : ∀ e, e < N → g (f e) = g e := fun e he => (a3 (f e) e (a1 e he).1 he).mp (a1 e he).2
  have gf : ∀ e, e < N → f (g e) = f e := fun e he => (a3 (g e) e (a2 e he).1 he).mpr (a2 e he).2
  apply Nat.le_antisymm
  · refine zinj 32 _ _ g (fun i hi hp => ?_) (fun i j hi hj hp hq2 e => ?_)
    · obtain ⟨e1, q1, q2, q3⟩ := (hR i).mp hp
      rw [← q3]
      exact ⟨(a2 _ (a1 e1 q1).1).1, (hq _).mpr ⟨e1, q1, q2, (fg e1 q1).symm⟩⟩
    · obtain ⟨e1, q1, q2, q3⟩ := (hR i).mp hp
      obtain ⟨e2, p1, p2, p3⟩ := (hR j).mp hq2
      have := (a3 i j (by rw [← q3]; exact (a1 e1 q1).1) (by rw [← p3]; exact (a1 e2 p1).1)).mpr e
      rw [← q3, ← p3, (a1 e1 q1).2, (a1 e2 p1).2] at this
      omega
  · refine zinj N _ _ f (fun i hi hp => ?_) (fun i j hi hj hp hq2 e => ?_)
    · obtain ⟨e1, q1, q2, q3⟩ := (hq i).mp hp
      have hfi := (a1 i hi).1
      exact ⟨by omega, (hR _).mpr ⟨e1, q1, q2, by rw [← q3]; exact (gf e1 q1).symm⟩⟩
    · obtain ⟨e1, q1, q2, q3⟩ := (hq i).mp hp
      obtain ⟨e2, p1, p2, p3⟩ := (hq j).mp hq2
      have := (a3 i j hi hj).mp e
      rw [← q3, ← p3, (a2 e1 q1).2, (a2 e2 p1).2] at this
      omega
