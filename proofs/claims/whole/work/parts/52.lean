/-! plain -/
def zx1 (p i : Nat) : Bool := decide (p = i)
def zx2 (p q i : Nat) : Bool := decide (p = i) || decide (q = i)
theorem zx1_b {p : Nat} (j : Nat) : zx1 p j = (2 ^ p).testBit j := by rw [Nat.testBit_two_pow]; rfl
theorem zx2_b {p q : Nat} (j : Nat) : zx2 p q j = (2 ^ p ||| 2 ^ q).testBit j := by rw [Nat.testBit_or, Nat.testBit_two_pow, Nat.testBit_two_pow]; rfl
theorem zx1_m {p nj : Nat} (hp : p < 16) (hnj : nj ≤ 16) : ∀ j, j < nj → (zx1 p j = true ↔ nI j = nI p ∨ nI j = -1) := fun j hj => by
  unfold zx1
  rw [decide_eq_true_eq, zl_eqm1 (by omega), nI_eq (by omega) (by omega)]
  exact ⟨fun e => Or.inl e.symm, fun e => by rcases e with e | e; exact e.symm; exact e.elim⟩
theorem zx2_m {p q nj : Nat} (hp : p < 16) (hq : q < 16) (hnj : nj ≤ 16) : ∀ j, j < nj → (zx2 p q j = true ↔ nI j = nI q ∨ nI j = nI p) := fun j hj => by
  unfold zx2
  rw [Bool.or_eq_true, decide_eq_true_eq, decide_eq_true_eq, nI_eq (by omega) (by omega), nI_eq (by omega) (by omega)]
  exact ⟨fun e => by rcases e with e | e; exact Or.inr e.symm; exact Or.inl e.symm, fun e => by rcases e with e | e; exact Or.inr e.symm; exact Or.inl e.symm⟩
theorem zp_lt {p : Nat} (hp : p < 16) : 2 ^ p < 65536 := Nat.pow_lt_pow_right (n := 16) (by omega) hp
/-- two joins cut, on the side of the class -/
theorem c_two54 {ns nj p : Nat} {cs ea eb tt : Nat → Nat} (hG : wfG ns nj cs ea eb tt) (hp : p < nj) (K : Int32 → zI → Option (Int32 × zI)) : ∀ (m k fuel : Nat) (V : zI), k + m = nj → m < fuel → p < k → gC V ns nj cs ea eb tt → (∃ V' q, q < nj ∧ p < q ∧ ¬ zhom ns nj ea eb tt (zx2 p q) ∧ fc_Shape_leastCuts_L54 K fuel (nI p) (nI k) V = some (2, V') ∧ ∀ c j, c ≠ 102 → c ≠ 103 → V' c j = V c j) ∨ (∃ V', (∀ q, k ≤ q → q < nj → zhom ns nj ea eb tt (zx2 p q)) ∧ fc_Shape_leastCuts_L54 K fuel (nI p) (nI k) V = K (nI p) V' ∧ ∀ c j, c ≠ 102 → c ≠ 103 → V' c j = V c j) := by
  have hns := hG.1
  have hnj := hG.2.1
  intro m
  induction m with
  | zero =>
    intro k fuel V hk hf hpk hV
    obtain ⟨F, rfl⟩ : ∃ g, fuel = g + 1 := ⟨fuel - 1, by omega⟩
    exact Or.inr ⟨V, fun q h1 h2 => by omega, by rw [fc_Shape_leastCuts_L54, hV.2.1, if_pos (nI_le (by omega) (by omega))], fun _ _ _ _ => rfl⟩
  | succ m ih =>
    intro k fuel V hk hf hpk hV
    obtain ⟨F, rfl⟩ : ∃ g, fuel = g + 1 := ⟨fuel - 1, by omega⟩
    obtain ⟨r, V1, q1, q2, q3⟩ := c_home (mask := 2 ^ p ||| 2 ^ k) hG hV (zor_lt (zp_lt (by omega)) (zp_lt (by omega))) (X := zx2 p k) (fun j _ => zx2_b j)
    rw [fc_Shape_leastCuts_L54, hV.2.1, if_neg (nI_ge (by omega) (by omega)), zshl2 p (by omega), zshl2 k (by omega), zl_or, q1, Option.bind_some, nI_1]
    rcases q2 with ⟨rfl, e⟩ | ⟨rfl, e⟩
    · rw [if_neg z10]
      rcases ih (k + 1) F V1 (by omega) (by omega) (by omega) (gC_cg hV (fun c j h1 h2 => q3 c j (by omega) (by omega))) with ⟨V', q, x1, x2, x3, x4, x5⟩ | ⟨V', x1, x2, x3⟩
      · exact Or.inl ⟨V', q, x1, x2, x3, x4, fun c j h1 h2 => by rw [x5 c j h1 h2, q3 c j h1 h2]⟩
      · refine Or.inr ⟨V', fun q h1 h2 => ?_, x2, fun c j h1 h2 => by rw [x3 c j h1 h2, q3 c j h1 h2]⟩
        by_cases hq : q = k
        · subst hq; exact e
        · exact x1 q (by omega) h2
    · rw [if_pos rfl]
      exact Or.inl ⟨V1, k, by omega, hpk, e, rfl, q3⟩
theorem c_two42 {ns nj : Nat} {cs ea eb tt : Nat → Nat} (hG : wfG ns nj cs ea eb tt) : ∀ (m k fuel : Nat) (V : zI), k + m = nj → m < fuel → gC V ns nj cs ea eb tt → ∃ V', (∀ c j, c ≠ 102 → c ≠ 103 → V' c j = V c j) ∧ ((∃ p q, p < q ∧ q < nj ∧ ¬ zhom ns nj ea eb tt (zx2 p q)) ∧ fc_Shape_leastCuts_L42 fuel (nI k) V = some (2, V') ∨ (∀ p q, k ≤ p → p < q → q < nj → zhom ns nj ea eb tt (zx2 p q)) ∧ fc_Shape_leastCuts_L42 fuel (nI k) V = some (-1, V')) := by
  have hns := hG.1
  have hnj := hG.2.1
  intro m
  induction m with
  | zero =>
    intro k fuel V hk hf hV
    obtain ⟨F, rfl⟩ : ∃ g, fuel = g + 1 := ⟨fuel - 1, by omega⟩
    exact ⟨V, fun _ _ _ _ => rfl, Or.inr ⟨fun p q h1 h2 h3 => by omega, by rw [fc_Shape_leastCuts_L42, hV.2.1, if_pos (nI_le (by omega) (by omega))]⟩⟩
  | succ m ih =>
    intro k fuel V hk hf hV
    obtain ⟨F, rfl⟩ : ∃ g, fuel = g + 1 := ⟨fuel - 1, by omega⟩
    rw [fc_Shape_leastCuts_L42, hV.2.1, if_neg (nI_ge (by omega) (by omega)), nI_1]
    rcases c_two54 hG (p := k) (by omega) (fun (u10 : Int32) (J11 : zI) => fc_Shape_leastCuts_L42 F (u10 + (1 : Int32)) J11) m (k + 1) 100 V (by omega) (by omega) (by omega) hV with ⟨V', q, x1, x2, x3, x4, x5⟩ | ⟨V1, x1, x2, x3⟩
    · rw [x4]
      exact ⟨V', x5, Or.inl ⟨⟨k, q, x2, x1, x3⟩, rfl⟩⟩
    · rw [x2]
      obtain ⟨V', y1, y2⟩ := ih (k + 1) F V1 (by omega) (by omega) (gC_cg hV (fun c j h1 h2 => x3 c j (by omega) (by omega)))
      refine ⟨V', fun c j h1 h2 => by rw [y1 c j h1 h2, x3 c j h1 h2], ?_⟩
      rw [nI_1]
      rcases y2 with ⟨y3, y4⟩ | ⟨y3, y4⟩
      · exact Or.inl ⟨y3, y4⟩
      · refine Or.inr ⟨fun p q h1 h2 h3 => ?_, y4⟩
        by_cases hp : p = k
        · subst hp; exact x1 q (by omega) h3
        · exact y3 p q (by omega) h2 h3
/-- and on the side of the reference -/
theorem m_two54 {J : zI} {ns nj p : Nat} {cs ea eb tt : Nat → Nat} (hG : wfG ns nj cs ea eb tt) (hg : gM (J 1) ns nj cs ea eb tt) (hp : p < nj) (K : Int32 → zI → Option (Int32 × zI)) : ∀ (m k fuel : Nat), k + m = p → m < fuel → (∃ q, q < p ∧ ¬ zhom ns nj ea eb tt (zx2 q p)) ∧ fm_plain_L54 K fuel (nI p) (nI k) J = some (2, J) ∨ (∀ q, k ≤ q → q < p → zhom ns nj ea eb tt (zx2 q p)) ∧ fm_plain_L54 K fuel (nI p) (nI k) J = K (nI p) J := by
  have hns := hG.1
  have hnj := hG.2.1
  intro m
  induction m with
  | zero =>
    intro k fuel hk hf
    obtain ⟨F, rfl⟩ : ∃ g, fuel = g + 1 := ⟨fuel - 1, by omega⟩
    exact Or.inr ⟨fun q h1 h2 => by omega, by rw [fm_plain_L54, if_pos (nI_le (by omega) (by omega))]⟩
  | succ m ih =>
    intro k fuel hk hf
    obtain ⟨F, rfl⟩ : ∃ g, fuel = g + 1 := ⟨fuel - 1, by omega⟩
    obtain ⟨r, q1, q2⟩ := m_comes (v1 := nI p) (v2 := nI k) hG hg (zx2_m (p := k) (q := p) (by omega) (by omega) hnj)
    rw [fm_plain_L54, if_neg (nI_ge (by omega) (by omega)), q1, Option.bind_some, nI_1]
    rcases q2 with ⟨rfl, e⟩ | ⟨rfl, e⟩
    · rw [if_neg z10]
      rcases ih (k + 1) F (by omega) (by omega) with ⟨x1, x2⟩ | ⟨x1, x2⟩
      · exact Or.inl ⟨x1, x2⟩
      · refine Or.inr ⟨fun q h1 h2 => ?_, x2⟩
        by_cases hq : q = k
        · subst hq; exact e
        · exact x1 q (by omega) h2
    · rw [if_pos rfl]
      exact Or.inl ⟨⟨k, by omega, e⟩, rfl⟩
theorem m_two42 {J : zI} {ns nj : Nat} {cs ea eb tt : Nat → Nat} (hG : wfG ns nj cs ea eb tt) (hg : gM (J 1) ns nj cs ea eb tt) : ∀ (m k fuel : Nat), k + m = nj → m < fuel → (∃ p q, p < q ∧ q < nj ∧ ¬ zhom ns nj ea eb tt (zx2 p q)) ∧ fm_plain_L42 fuel (nI k) J = some (2, J) ∨ (∀ p q, k ≤ q → p < q → q < nj → zhom ns nj ea eb tt (zx2 p q)) ∧ fm_plain_L42 fuel (nI k) J = (fm_finding J (-1000002 : Int32)).bind fun r => some (r.1, r.2) := by
  have hns := hG.1
  have hnj := hG.2.1
  intro m
  induction m with
  | zero =>
    intro k fuel hk hf
    obtain ⟨F, rfl⟩ : ∃ g, fuel = g + 1 := ⟨fuel - 1, by omega⟩
    exact Or.inr ⟨fun p q h1 h2 h3 => by omega, by rw [fm_plain_L42, zcl1, hg.2.1, if_pos (nI_le (by omega) (by omega))]⟩
  | succ m ih =>
    intro k fuel hk hf
    obtain ⟨F, rfl⟩ : ∃ g, fuel = g + 1 := ⟨fuel - 1, by omega⟩
    rw [fm_plain_L42, zcl1, hg.2.1, if_neg (nI_ge (by omega) (by omega))]
    have r := m_two54 hG hg (p := k) (by omega) (fun (u12 : Int32) (J13 : zI) => fm_plain_L42 F (u12 + (1 : Int32)) J13) k 0 100 (by omega) (by omega)
    rw [show (0 : Int32) = nI 0 from rfl]
    rcases r with ⟨⟨q, x1, x2⟩, x3⟩ | ⟨x1, x2⟩
    · rw [x3]
      exact Or.inl ⟨⟨q, k, x1, by omega, x2⟩, rfl⟩
    · rw [x2, nI_1]
      rcases ih (k + 1) F (by omega) (by omega) with ⟨y1, y2⟩ | ⟨y1, y2⟩
      · exact Or.inl ⟨y1, y2⟩
      · refine Or.inr ⟨fun p q h1 h2 h3 => ?_, y2⟩
        by_cases hq : q = k
        · subst hq; exact x1 p (by omega) h2
        · exact y1 p q (by omega) h2 h3
theorem sim_plain_L {ns nj : Nat} {cs ea eb tt : Nat → Nat} {J : zI} (hG : wfG ns nj cs ea eb tt) (hg : gM (J 1) ns nj cs ea eb tt) : ∀ (m k f1 f2 : Nat) (V : zI), k + m = nj → m < f1 → m < f2 → gC V ns nj cs ea eb tt → ∃ V', (∀ c j, c ≠ 102 → c ≠ 103 → V' c j = V c j) ∧ ((∃ n, n ≤ 2 ∧ fc_Shape_leastCuts_L13 f1 (nI k) V = some (nI n, V') ∧ fm_plain_L13 f2 (nI k) J = some (nI n, J)) ∨ fc_Shape_leastCuts_L13 f1 (nI k) V = some (-1, V') ∧ fm_plain_L13 f2 (nI k) J = (fm_finding J (-1000002 : Int32)).bind fun r => some (r.1, r.2)) := by
  have hns := hG.1
  have hnj := hG.2.1
  intro m
  induction m with
  | zero =>
    intro k f1 f2 V hk hf1 hf2 hV
    obtain ⟨f1, rfl⟩ : ∃ g, f1 = g + 1 := ⟨f1 - 1, by omega⟩
    obtain ⟨f2, rfl⟩ : ∃ g, f2 = g + 1 := ⟨f2 - 1, by omega⟩
    rw [fc_Shape_leastCuts_L13, hV.2.1, if_pos (nI_le (by omega) (by omega)), fm_plain_L13, zcl1, hg.2.1, if_pos (nI_le (by omega) (by omega))]
    obtain ⟨V', y1, y2⟩ := c_two42 hG nj 0 100 V (by omega) (by omega) hV
    have z := m_two42 hG hg nj 0 100 (by omega) (by omega)
    refine ⟨V', y1, ?_⟩
    rcases y2 with ⟨⟨p, q, p1, p2, p3⟩, y4⟩ | ⟨y3, y4⟩
    · rcases z with ⟨z1, z2⟩ | ⟨z1, z2⟩
      · exact Or.inl ⟨2, by omega, y4, z2⟩
      · exact absurd (z1 p q (by omega) p1 p2) p3
    · rcases z with ⟨⟨p, q, p1, p2, p3⟩, z2⟩ | ⟨z1, z2⟩
      · exact absurd (y3 p q (by omega) p1 p2) p3
      · exact Or.inr ⟨y4, z2⟩
  | succ m ih =>
    intro k f1 f2 V hk hf1 hf2 hV
    obtain ⟨f1, rfl⟩ : ∃ g, f1 = g + 1 := ⟨f1 - 1, by omega⟩
    obtain ⟨f2, rfl⟩ : ∃ g, f2 = g + 1 := ⟨f2 - 1, by omega⟩
    obtain ⟨r, V1, q1, q2, q3⟩ := c_home (mask := 2 ^ k) hG hV (zp_lt (by omega)) (X := zx1 k) (fun j _ => zx1_b j)
    obtain ⟨s, p1, p2⟩ := m_comes (v1 := nI k) (v2 := -1) hG hg (zx1_m (p := k) (by omega) hnj)
    rw [fc_Shape_leastCuts_L13, hV.2.1, if_neg (nI_ge (by omega) (by omega)), fm_plain_L13, zcl1, hg.2.1, if_neg (nI_ge (by omega) (by omega)), zshl2 k (by omega), q1, p1, Option.bind_some, Option.bind_some, nI_1]
    rcases q2 with ⟨rfl, e⟩ | ⟨rfl, e⟩
    · rcases p2 with ⟨rfl, e2⟩ | ⟨_, e2⟩
      · rw [if_neg z10, if_neg z10]
        obtain ⟨V', y1, y2⟩ := ih (k + 1) f1 f2 V1 (by omega) (by omega) (by omega) (gC_cg hV (fun c j h1 h2 => q3 c j (by omega) (by omega)))
        exact ⟨V', fun c j h1 h2 => by rw [y1 c j h1 h2, q3 c j h1 h2], y2⟩
      · exact absurd e e2
    · rcases p2 with ⟨_, e2⟩ | ⟨rfl, e2⟩
      · exact absurd e2 e
      · rw [if_pos rfl, if_pos rfl]
        exact ⟨V1, q3, Or.inl ⟨1, by omega, rfl, rfl⟩⟩
theorem sim_plain {I J : zI} (h : rR I J) : zSim (fc_T_plain I) (fm_plain J) := by
  obtain ⟨⟨⟨ns, nj, cs, ea, eb, tt, nw, kd, bg, sp, mk, eg, np, pl, hr, nt, ly, wo, al, dm, nf, fw, fo, hG, hW, hF, hD⟩, hT, hP⟩, hX⟩ := id h
  obtain ⟨g1, g2, g3⟩ := id hG
  obtain ⟨c1, c2, c3, c4, c5⟩ := id g2
  obtain ⟨m1, m2, m3, m4⟩ := id g3
  have hns := g1.1
  have hnj := g1.2.1

  obtain ⟨r, V1, q1, q2, q3⟩ := c_home (mask := 0) g1 g2 (by omega) (X := fun _ => false) (fun j hj => by rw [Nat.zero_testBit])
  obtain ⟨s, p1, p2⟩ := m_comes (v1 := -1) (v2 := -1) g1 g3 (zno_j hnj)
  unfold fc_T_plain fm_plain fc_Shape_leastCuts
  rw [show fc_Shape_turnsHome I (0 : Int32) = _ from q1, p1, Option.bind_some, Option.bind_some]
  rcases q2 with ⟨rfl, e⟩ | ⟨rfl, e⟩
  · rcases p2 with ⟨rfl, e2⟩ | ⟨_, e2⟩
    · rw [if_neg z10, if_neg z10]
      obtain ⟨V', y1, y2⟩ := sim_plain_L (J := J) g1 g3 nj 0 100 100 V1 (by omega) (by omega) (by omega) (gC_cg g2 (fun c j h1 h2 => q3 c j (by omega) (by omega)))
      have hR : rR V' J := rR_shape h (fun c j h1 h2 => (y1 c j h1 h2).trans (q3 c j h1 h2)) (fun _ _ _ => rfl)
      rcases y2 with ⟨n, n1, n2, n3⟩ | ⟨n2, n3⟩
      · rw [show fc_Shape_leastCuts_L13 100 (0 : Int32) V1 = _ from n2, show fm_plain_L13 100 (0 : Int32) J = _ from n3, Option.bind_some, if_pos (show (0 : Int32) ≤ (nI n, V').1 from nI_pos' (by omega))]
        exact zSim_i rfl rfl hR
      · rw [show fc_Shape_leastCuts_L13 100 (0 : Int32) V1 = _ from n2, show fm_plain_L13 100 (0 : Int32) J = _ from n3, Option.bind_some, if_neg (show ¬ (0 : Int32) ≤ ((-1 : Int32), V').1 from (by decide : ¬ (0 : Int32) ≤ -1))]
        exact zSim_e (zsim_err hR (k := 2) (by omega) (by omega) rfl (by decide))
    · exact absurd e e2
  · rcases p2 with ⟨_, e2⟩ | ⟨rfl, e2⟩
    · exact absurd e2 e
    · rw [if_pos rfl, if_pos rfl, Option.bind_some, if_pos (show (0 : Int32) ≤ ((0 : Int32), V1).1 from nI_pos' (n := 0) (by omega))]
      exact zSim_i rfl rfl (rR_shape h q3 (fun _ _ _ => rfl))
