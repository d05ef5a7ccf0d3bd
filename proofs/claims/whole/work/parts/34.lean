/-! agree, known, test -/
theorem zweigh {I J : zI} (h : rR I J) : ∃ (nj nw dm N : Nat) (tt : Nat → Nat) (P : Nat → Bool) (y : Nat → Nat) (od : Nat → Option Nat) (f : Nat → Nat) (I' J' : zI), (nj ≤ 16 ∧ nw ≤ 10 ∧ dm < 65536 ∧ N ≤ 64) ∧ (I 2 2 = nI nj ∧ J 1 1 = nI nj ∧ I 29 0 = nI dm ∧ J 1 9 = nI dm ∧ ∀ j, j < nj → I 5 j = nI (tt j) ∧ J 1 (18 + 3 * j + 2) = nI (tt j)) ∧ (fc_Doubts_weigh I = some I' ∧ fm_findWays J = some J' ∧ rR I' J') ∧ (I' 29 4 = nI (zsum P (fun _ => 1) N) ∧ J' 0 23 = nI (zsum P (fun _ => 1) N)) ∧ (∀ j, j < nj → I' 32 j = nI (zsum P (fun i => y i / 2 ^ j % 2) N)) ∧ (∀ w, w < nw → I' 33 w = nI (zsum P (fun i => zev (od w) (y i)) N) ∧ I' 34 w = zov (od w) ∧ (∀ o, od w = some o → o < 65536) ∧ fm_oddOf J' (nI w) = some (zov (od w))) ∧ (∀ k, k < zsum P (fun _ => 1) N → J' 10 k = nI (f k) ∧ f k < 65536) ∧ (∀ g : Nat → Nat, zls f g (zsum P (fun _ => 1) N) = zsum P (fun i => g (y i)) N) ∧ I' 7 0 = nI nw ∧ J' 1 2 = nI nw := by
  obtain ⟨⟨⟨ns, nj, cs, ea, eb, tt, nw, kd, bg, sp, mk, eg, np, pl, hr, nt, ly, wo, al, dm, nf, fw, fo, hG, hW, hF, hD⟩, hT, hP⟩, hX⟩ := id h
  obtain ⟨g1, g2, g3⟩ := id hG
  obtain ⟨c1, c2, c3, c4, c5⟩ := id g2
  obtain ⟨m1, m2, m3, m4⟩ := id g3
  have hns := g1.1
  have hnj := g1.2.1

  obtain ⟨⟨t, t1, t2, t3⟩, _⟩ := id hT
  obtain ⟨w1, w2, w3⟩ := id hW
  obtain ⟨d1, d2, d3⟩ := id hD
  have hC := mk_cT g1 g2 t1 t2
  have hnw := w1.1
  have hpw : 2 ^ nj ≤ 2 ^ 16 := Nat.pow_le_pow_right (by omega) (by omega)
  have hdm : dm < 65536 := by have := d1.1; omega
  have htu := ztu_lt (tt := tt) nj (by omega) (fun j hj => (g1.2.2.2.1 j hj).2.2.2)
  obtain ⟨S, hS⟩ : ∃ S, S = ztu tt nj ^^^ (ztu tt nj &&& dm) := ⟨_, rfl⟩
  have hSl : S < 65536 := by
    rw [hS]
    exact Nat.xor_lt_two_pow (n := 16) htu (Nat.lt_of_le_of_lt Nat.and_le_left htu)
  obtain ⟨od, hod⟩ : ∃ od, od = fun w => zod nj ea eb (zcr nj cs ea eb tt t) (eg w) (2 * bg w) (sp w) := ⟨_, rfl⟩
  obtain ⟨I', r1, r2, r3, r4, r5, r6⟩ := c_weigh g1 g2 hC w1 w2 d1 d2 hod hS
  have h6 := d1.2.1
  have hN : 2 ^ zpc dm ≤ 2 ^ 6 := Nat.pow_le_pow_right (by omega) h6
  have hN0 : 0 < 2 ^ zpc dm := Nat.two_pow_pos _
  have hol : ∀ w o, od w = some o → o < 65536 := fun w o ho => by rw [hod] at ho; exact zod_lt hnj o ho
  have hoM : ∀ V : zI, (∀ k, k < 448 → V 1 k = J 1 k) → ∀ w, w < nw → fm_oddOf V (nI w) = some (zov (od w)) := fun V hV w hw => by
    rw [hod]
    exact m_oddOf (t := t) g1 (gM_cg ⟨hns, hnj⟩ g3 (fun k hk => hV k (by omega))) w1 (wM_cg hnw (fun w hw => (w1.2 w hw).2.2.1) w3 (fun k hk => hV k (by omega))) hw
  have hagr : ∀ V : zI, (∀ c j, c ≠ 10 → ¬ (c = 0 ∧ j = 23) → V c j = J c j) → ∀ x, x < 65536 → fm_agrees V (nI x) = some (if zso od fw fo x nf then 1 else 0) := fun V hV x hx =>
    m_agrees_L (nw := nw) (fw := fw) (fo := fo) d1.2.2.1 hnw (by rw [hV _ _ (by omega) (by omega)]; exact d3.2.1) (fun f hf => ⟨(d1.2.2.2 f hf).1, (d1.2.2.2 f hf).2, by rw [hV _ _ (by omega) (by omega)]; exact (d3.2.2 f hf).1, by rw [hV _ _ (by omega) (by omega)]; exact (d3.2.2 f hf).2⟩) (fun w hw => ⟨hoM V (fun k _ => hV 1 k (by omega) (by omega)) w hw, hol w⟩) nf 0 100 (by omega) (by have := d1.2.2.1; omega)
  have hgM2 : gM (zup J 0 23 (0 : Int32) 1) ns nj cs ea eb tt := gM_cg ⟨hns, hnj⟩ g3 (fun k hk => zup_o (by omega))
  obtain ⟨J', f, s1, s2, s3, s4, s5⟩ := m_find_L hSl hdm (by rw [zpq_zpc]; omega) hagr (2 ^ zpc dm - 1) 0 100 (zup J 0 23 (0 : Int32)) (fun _ => 0) (by rw [zpq_zpc]; omega) (by omega) (fun c j h1 h2 => zup_o (by omega)) zup_y (fun k hk => by rw [zsum] at hk; omega) (fun g => rfl)
  rw [zpq_zpc] at s3 s4 s5
  rw [zdq_0] at s1
  have s0 : fm_findWays J = some J' := by
    unfold fm_findWays
    have e1 : fm_turned (zup J 0 23 (0 : Int32)) = some (nI (ztu tt nj)) := m_tset_L g1 hgM2 nj 0 100 (by omega) (by omega)
    rw [e1, Option.bind_some, show (9 : Int32).toNatClampNeg = 9 from by decide, d3.1, zandnot, ← hS]
    exact s1
  refine ⟨nj, nw, dm, 2 ^ zpc dm, tt, _, _, od, f, I', J', ⟨hnj, hnw, hdm, by omega⟩, ⟨c2, m2, d2.1, d3.1, fun j hj => ⟨(c4 j hj).2.2, (m4 j hj).2.2⟩⟩, ⟨r1, s0, ?_⟩, ⟨r2, s3⟩, r3, fun w hw => ⟨r4 w hw, r5 w hw, hol w, hoM J' (fun k _ => s2 1 k (by omega) (by omega)) w hw⟩, s4, s5, by rw [r6 _ _ (by omega) (by omega) (by omega) (by omega)]; exact w2.1, by rw [s2 _ _ (by omega) (by omega)]; exact w3.1⟩
  exact rR_cg h (fun c k hc => r6 c k (by unfold zwrel zxrel at hc; omega) (by unfold zwrel zxrel at hc; omega) (by unfold zwrel zxrel at hc; omega) (by unfold zwrel zxrel at hc; omega)) (fun k _ => s2 1 k (by omega) (by omega)) (fun c k hc => s2 c k (by unfold mxrel at hc; omega) (by unfold mxrel at hc; omega))
theorem sim_agree {I J : zI} (h : rR I J) : zSim (fc_T_agree I) (fm_agree J) := by
  obtain ⟨nj, nw, dm, N, tt, P, y, od, f, I', J', _, _, ⟨a1, a2, a3⟩, ⟨b1, b2⟩, _⟩ := zweigh h
  unfold fc_T_agree fm_agree
  rw [a1, a2, Option.bind_some, Option.bind_some, b1, b2]
  exact zSim_i rfl rfl a3
theorem m_known_L {V : zI} {f : Nat → Nat} {c j : Nat} (hc : c ≤ 64) (hj : j < 16) (h23 : V 0 23 = nI c) (h10 : ∀ k, k < c → V 10 k = nI (f k) ∧ f k < 65536) : ∀ (m k fuel : Nat), k + m = c → m < fuel → fm_known_L45 fuel (nI j) (nI (zls f (fun x => x / 2 ^ j % 2) k)) (nI k) V = if nI c = 0 then ((fm_finding V (-1000002 : Int32)).bind fun r => some (r.1, r.2)) else if nI (zls f (fun x => x / 2 ^ j % 2) c) = 0 then some ((0 : Int32), V) else if nI (zls f (fun x => x / 2 ^ j % 2) c) = nI c then some ((1 : Int32), V) else some ((2 : Int32), V) := by
  intro m
  induction m with
  | zero =>
    intro k fuel hk hf
    obtain ⟨q, rfl⟩ : ∃ q, fuel = q + 1 := ⟨fuel - 1, by omega⟩
    rw [fm_known_L45, h23, if_pos (nI_le (by omega) (by omega)), show k = c by omega]
  | succ m ih =>
    intro k fuel hk hf
    obtain ⟨q, rfl⟩ : ∃ q, fuel = q + 1 := ⟨fuel - 1, by omega⟩
    have i1 := ih (k + 1) q (by omega) (by omega)
    rw [zls] at i1
    rw [fm_known_L45, h23, if_neg (nI_ge (by omega) (by omega)), zl_b (by omega), show decide (k < 64) = true from decide_eq_true (by omega), zl_cl k (by omega), (h10 k (by omega)).1, zshr_n (h10 k (by omega)).2 hj, zl_add, nI_1]
    exact i1
theorem sim_known {I J : zI} (h : rR I J) (a : Int32) : zSim (fc_T_known I a) (fm_known J a) := by
  obtain ⟨nj, nw, dm, N, tt, P, y, od, f, I', J', ⟨l1, l2, l3, l4⟩, ⟨e1, e2, e3, e4, e5⟩, ⟨a1, a2, a3⟩, ⟨b1, b2⟩, hj, hw, hf, hg, _⟩ := zweigh h
  have hle := zsum_le (p := P) (g := fun _ => 1) (fun _ => Nat.le_refl _) N
  unfold fc_T_known fm_known
  rw [c_hasJoin e1 l1, m_is (a := 1) (c := 1) rfl (by omega) e2 (by omega), Option.bind_some, Option.bind_some]
  by_cases ha : ∃ k, k < nj ∧ a = nI k
  · simp only [ha, if_true, z10, if_false]
    obtain ⟨j, j1, rfl⟩ := ha
    unfold fm_has
    rw [show (9 : Int32).toNatClampNeg = 9 from by decide, e3, e4, zshr_n l3 (by omega)]
    rcases (show dm / 2 ^ j % 2 = 0 ∨ dm / 2 ^ j % 2 = 1 by omega) with hb | hb
    · rw [hb]
      have hjo : fm_joinOf J (nI j) (2 : Int32) = some (nI (tt j)) := by rw [show (2 : Int32) = nI 2 from rfl, m_joinOf (by omega) (by omega), (e5 j j1).2]
      rw [if_pos (show nI 0 = (0 : Int32) from rfl), if_neg (show ¬ nI 0 = (1 : Int32) by decide), Option.bind_some, if_pos rfl, hjo, Option.bind_some, zl_b (by omega), show decide (j < 16) = true from decide_eq_true (by omega), zl_cl j (by omega), (e5 j j1).1]
      exact zSim_i rfl rfl h
    · rw [hb]
      rw [if_neg (show ¬ nI 1 = (0 : Int32) by decide), if_pos (show nI 1 = (1 : Int32) from rfl), Option.bind_some, if_neg z10, a1, a2, Option.bind_some, Option.bind_some]
      have hL := m_known_L (f := f) (c := zsum P (fun _ => 1) N) (j := j) (by omega) (by omega) b2 hf (zsum P (fun _ => 1) N) 0 100 (by omega) (by omega)
      rw [hg] at hL
      rw [show fm_known_L45 100 (nI j) (0 : Int32) (0 : Int32) J' = _ from hL, b1, zl_b (by omega), show decide (j < 16) = true from decide_eq_true (by omega), zl_cl j (by omega), hj j j1]
      by_cases q1 : nI (zsum P (fun _ => 1) N) = 0
      · rw [if_pos q1, if_pos q1]
        exact zSim_e (zsim_err a3 (k := 2) (by omega) (by omega) rfl (by decide))
      · rw [if_neg q1, if_neg q1]
        simp only [z_guard, if_true]
        by_cases q2 : nI (zsum P (fun i => y i / 2 ^ j % 2) N) = 0
        · rw [if_pos q2, if_pos q2]; exact zSim_i rfl rfl a3
        · rw [if_neg q2, if_neg q2]
          by_cases q3 : nI (zsum P (fun i => y i / 2 ^ j % 2) N) = nI (zsum P (fun _ => 1) N)
          · rw [if_pos q3, if_pos q3]; exact zSim_i rfl rfl a3
          · rw [if_neg q3, if_neg q3]; exact zSim_i rfl rfl a3
  · simp only [ha, if_true, if_false]
    exact zSim_e (zsim_err h (k := 1) (by omega) (by omega) rfl (by decide))
theorem zl_max {a b : Nat} (ha : a < 2 ^ 31) (hb : b < 2 ^ 31) : zmax (nI a) (nI b) = nI (if a < b then b else a) := by
  unfold zmax
  by_cases h : a < b
  · rw [if_pos h, if_pos ((nI_ltI ha hb).mpr h)]
  · rw [if_neg h, if_neg (fun q => h ((nI_ltI ha hb).mp q))]
theorem zsum_two {P : Nat → Bool} {g k : Nat → Nat} (h : ∀ i, g i + k i = 1) : ∀ n, zsum P g n + zsum P k n = zsum P (fun _ => 1) n
  | 0 => rfl
  | n + 1 => by
    have i1 := zsum_two (P := P) h n
    have i2 := h n
    rw [zsum, zsum, zsum]
    split <;> omega
theorem m_test33 {V : zI} {f : Nat → Nat} {c o : Nat} (hc : c ≤ 64) (ho : o < 65536) (h23 : V 0 23 = nI c) (h10 : ∀ k, k < c → V 10 k = nI (f k) ∧ f k < 65536) (K : Int32 → Int32 → Int32 → Int32 → Int32 → zI → Option (Int32 × zI)) (v1 v2 v3 : Int32) : ∀ (m k fuel : Nat), k + m = c → m < fuel → fm_test_L33 K fuel v1 v2 v3 (nI o) (nI (zls f (fun x => zpc (o &&& x) % 2) k)) (nI k) V = K v1 v2 v3 (nI o) (nI (zls f (fun x => zpc (o &&& x) % 2) c)) V := by
  intro m
  induction m with
  | zero =>
    intro k fuel hk hf
    obtain ⟨q, rfl⟩ : ∃ q, fuel = q + 1 := ⟨fuel - 1, by omega⟩
    rw [fm_test_L33, h23, if_pos (nI_le (by omega) (by omega)), show k = c by omega]
  | succ m ih =>
    intro k fuel hk hf
    obtain ⟨q, rfl⟩ : ∃ q, fuel = q + 1 := ⟨fuel - 1, by omega⟩
    have i1 := ih (k + 1) q (by omega) (by omega)
    rw [zls] at i1
    have hb : o &&& f k < 65536 := Nat.lt_of_le_of_lt Nat.and_le_left ho
    have h16 := zpc_le16 (o &&& f k)
    have hbits : fm_bits V (nI (o &&& f k)) = some (nI (zpc (o &&& f k))) := by
      have := m_bits_L V 100 0 (o &&& f k) hb (by omega)
      rw [Nat.zero_add] at this
      exact this
    rw [fm_test_L33, h23, if_neg (nI_ge (by omega) (by omega)), if_neg (show ¬ nI o < 0 from nI_pos (by omega)), zl_b (by omega), show decide (k < 64) = true from decide_eq_true (by omega), zl_cl k (by omega), (h10 k (by omega)).1, zl_and, hbits, k_2, k_1]
    simp only [z_guard, if_true, Option.bind_some]
    rw [zl_mod _ _ (by omega) (by omega) (by omega), zl_add, zl_add]
    exact i1
theorem sim_test_L {I J : zI} {P : Nat → Bool} {y f : Nat → Nat} {od : Nat → Option Nat} {nw N : Nat} (hnw : nw ≤ 10) (hN : N ≤ 64) (b1 : I 29 4 = nI (zsum P (fun _ => 1) N)) (b2 : J 0 23 = nI (zsum P (fun _ => 1) N)) (hw : ∀ w, w < nw → I 33 w = nI (zsum P (fun i => zev (od w) (y i)) N) ∧ I 34 w = zov (od w) ∧ (∀ o, od w = some o → o < 65536) ∧ fm_oddOf J (nI w) = some (zov (od w))) (hf : ∀ k, k < zsum P (fun _ => 1) N → J 10 k = nI (f k) ∧ f k < 65536) (hg : ∀ g : Nat → Nat, zls f g (zsum P (fun _ => 1) N) = zsum P (fun i => g (y i)) N) (h2 : J 1 2 = nI nw) : ∀ (m k fuel : Nat) (b : Option Nat) (l : Nat), k + m = nw → m < fuel → l ≤ 64 → (∀ x, b = some x → x < 10) → ∃ b', (∀ x, b' = some x → x < 10) ∧ fc_Doubts_mostTelling_L7 I fuel (nI nw) (zov b) (nI l) (nI k) = some (zov b') ∧ fm_test_L10 fuel (zov b) (nI l) (nI k) J = (match b' with
    | none => ((fm_finding J (-1000002 : Int32)).bind fun r => some (r.1, r.2))
    | some x => some (nI x, J)) := by
  intro m
  induction m with
  | zero =>
    intro k fuel b l hk hfu hl hb
    obtain ⟨q, rfl⟩ : ∃ q, fuel = q + 1 := ⟨fuel - 1, by omega⟩
    refine ⟨b, hb, ?_, ?_⟩
    · rw [fc_Doubts_mostTelling_L7, if_pos (nI_le (by omega) (by omega))]
    · rw [fm_test_L10, show (2 : Int32).toNatClampNeg = 2 from by decide, h2, if_pos (nI_le (by omega) (by omega))]
      cases b with
      | none => rw [if_neg (show ¬ (0 : Int32) ≤ zov none by decide)]
      | some x =>
        have := hb x rfl
        rw [if_pos (show (0 : Int32) ≤ zov (some x) from nI_pos' (by omega))]; rfl
  | succ m ih =>
    intro k fuel b l hk hfu hl hb
    obtain ⟨q, rfl⟩ : ∃ q, fuel = q + 1 := ⟨fuel - 1, by omega⟩
    obtain ⟨w1, w2, w3, w4⟩ := hw k (by omega)
    have hle := zsum_le (p := P) (g := fun _ => 1) (fun _ => Nat.le_refl _) N
    rw [fc_Doubts_mostTelling_L7, if_neg (nI_ge (by omega) (by omega)), zl_b (by omega), show decide (k < 10) = true from decide_eq_true (by omega), zl_cl k (by omega), w2, w1, b1]
    rw [fm_test_L10, show (2 : Int32).toNatClampNeg = 2 from by decide, h2, if_neg (nI_ge (by omega) (by omega)), w4, Option.bind_some, nI_1]
    simp only [z_guard, if_true]
    cases e : od k with
    | none =>
      obtain ⟨b', i1, i2, i3⟩ := ih (k + 1) q b l (by omega) (by omega) hl hb
      refine ⟨b', i1, ?_, ?_⟩
      · rw [if_pos (show zov none < 0 by decide)]; exact i2
      · rw [fm_test_L33]
        by_cases hz : J 0 23 ≤ 0
        · rw [if_pos hz, if_pos (show zov none < 0 by decide), nI_1]; exact i3
        · rw [if_neg hz, if_pos (show zov none < 0 by decide), if_pos (show zov none < 0 by decide), nI_1]; exact i3
    | some o =>
      have ho := w3 o e
      have hn := zsum_two (P := P) (g := fun i => zev (some o) (y i)) (k := fun i => zpc (o &&& y i) % 2) (fun i => by
        show 1 - zpc (o &&& y i) % 2 + zpc (o &&& y i) % 2 = 1
        omega) N
      have hT := m_test33 (f := f) (c := zsum P (fun _ => 1) N) (o := o) (by omega) ho b2 hf
      rw [hg] at hT
      have hT2 : ∀ K v1 v2 v3, fm_test_L33 K 100 v1 v2 v3 (nI o) (0 : Int32) (0 : Int32) J = K v1 v2 v3 (nI o) (nI (zsum P (fun i => zpc (o &&& y i) % 2) N)) J := fun K v1 v2 v3 => hT K v1 v2 v3 (zsum P (fun _ => 1) N) 0 100 (by omega) (by omega)
      show ∃ b', _ ∧ _ ∧ fm_test_L33 _ 100 _ _ _ (nI o) (0 : Int32) (0 : Int32) J = _
      rw [hT2]
      rw [if_neg (show ¬ zov (some o) < 0 from nI_pos (by omega)), if_neg (show ¬ nI o < 0 from nI_pos (by omega)), b2]
      generalize zsum P (fun i => zev (some o) (y i)) N = E at *
      generalize zsum P (fun i => zpc (o &&& y i) % 2) N = F at *
      generalize zsum P (fun _ => 1) N = A at *
      rw [zl_sub _ _ (show E ≤ A by omega), zl_sub _ _ (show F ≤ A by omega), show A - E = F by omega, show A - F = E by omega, zl_max (show E < 2 ^ 31 by omega) (show F < 2 ^ 31 by omega), zl_max (show F < 2 ^ 31 by omega) (show E < 2 ^ 31 by omega), show (if F < E then E else F) = (if E < F then F else E) by split <;> split <;> omega, nI_1]
      have hM : (if E < F then F else E) ≤ 64 := by split <;> omega
      generalize (if E < F then F else E) = M at hM ⊢
      cases b with
      | none =>
        obtain ⟨b', i1, i2, i3⟩ := ih (k + 1) q (some k) M (by omega) (by omega) hM (fun x hx => by cases hx; omega)
        refine ⟨b', i1, ?_, ?_⟩
        · rw [if_pos (show zov none < 0 by decide)]; exact i2
        · rw [if_pos (show zov none < 0 by decide)]; exact i3
      | some x =>
        have hx := hb x rfl
        rw [if_neg (show ¬ zov (some x) < 0 from nI_pos (by omega)), if_neg (show ¬ zov (some x) < 0 from nI_pos (by omega))]
        by_cases hlm : l ≤ M
        · obtain ⟨b', i1, i2, i3⟩ := ih (k + 1) q (some x) l (by omega) (by omega) hl hb
          refine ⟨b', i1, ?_, ?_⟩
          · rw [if_pos (nI_le hlm (by omega))]; exact i2
          · rw [if_pos (nI_le hlm (by omega))]; exact i3
        · obtain ⟨b', i1, i2, i3⟩ := ih (k + 1) q (some k) M (by omega) (by omega) hM (fun x hx => by cases hx; omega)
          refine ⟨b', i1, ?_, ?_⟩
          · rw [if_neg (nI_ge (by omega) (by omega))]; exact i2
          · rw [if_neg (nI_ge (by omega) (by omega))]; exact i3
theorem sim_test {I J : zI} (h : rR I J) : zSim (fc_T_test I) (fm_test J) := by
  obtain ⟨nj, nw, dm, N, tt, P, y, od, f, I', J', ⟨l1, l2, l3, l4⟩, _, ⟨a1, a2, a3⟩, ⟨b1, b2⟩, hj, hw, hf, hg, h7, h2⟩ := zweigh h
  obtain ⟨b', q1, q2, q3⟩ := sim_test_L l2 l4 b1 b2 hw hf hg h2 nw 0 100 none 0 (by omega) (by omega) (by omega) (fun x hx => by cases hx)
  unfold fc_T_test fm_test fc_Doubts_mostTelling
  rw [a1, a2, Option.bind_some, Option.bind_some, h7, show fc_Doubts_mostTelling_L7 I' 100 (nI nw) (-1 : Int32) (0 : Int32) (0 : Int32) = _ from q2, show fm_test_L10 100 (-1 : Int32) (0 : Int32) (0 : Int32) J' = _ from q3, Option.bind_some]
  cases b' with
  | none =>
    rw [if_neg (show ¬ (0 : Int32) ≤ zov none by decide)]
    exact zSim_e (zsim_err a3 (k := 2) (by omega) (by omega) rfl (by decide))
  | some x =>
    have := q1 x rfl
    rw [if_pos (show (0 : Int32) ≤ zov (some x) from nI_pos' (by omega))]
    exact zSim_i rfl rfl a3
