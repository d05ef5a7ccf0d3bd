/-! the calls of walks that go -/
theorem wW_cg {I I' : zI} {nw : Nat} {kd bg sp : Nat → Nat} {mk : Nat → Int32} {eg : Nat → Nat → Nat} (h : wC I nw kd bg sp mk eg) (hn : nw ≤ 10) (e : ∀ c k, 7 ≤ c → c ≤ 22 → I' c k = I c k) : wC I' nw kd bg sp mk eg := wC_cg hn h e
theorem zpv_lt {ns : Nat} {T : Nat → Nat → Option (Nat × Nat)} (hT : wT ns T) {eg : Nat → Nat} {n : Nat} (he : ∀ k, k < n → eg k < 4) {p : Nat} (hp : p < 2 * ns) {k : Nat} (hk : k ≤ n) : zpv T eg p k < 2 * ns := by
  unfold zpv
  cases hq : zpl T eg p k with
  | none => show 0 < 2 * ns; omega
  | some r => exact zpl_lt hT he hp hk hq
theorem sim_gone {I J : zI} (h : rR I J) (a b c : Int32) : zSim (fc_T_gone I a b c) (fm_gone J a b c) := by
  obtain ⟨⟨⟨ns, nj, cs, ea, eb, tt, nw, kd, bg, sp, mk, eg, np, pl, hr, nt, ly, wo, al, dm, nf, fw, fo, hG, hW, hF, hD⟩, hT, hP⟩, hX⟩ := id h
  obtain ⟨g1, g2, g3⟩ := id hG
  obtain ⟨c1, c2, c3, c4, c5⟩ := id g2
  obtain ⟨m1, m2, m3, m4⟩ := id g3
  have hns := g1.1
  have hnj := g1.2.1
  obtain ⟨t, t1, t2, t3⟩ := id hT.1
  have hWT := mk_wT g1 t
  have hC := mk_cT g1 g2 t1 t2
  have hM := mk_mT g1 g3 t1 t3
  generalize zcr nj cs ea eb tt t = T at hWT hC hM
  obtain ⟨w1, w2, w3⟩ := id hW
  have hnw := w1.1
  unfold fc_T_gone fm_gone
  rw [c_hasWalk w2.1 hnw, m_is (a := 2) (c := 2) rfl (by omega) w3.1 (by omega), cwi, cwi, mwi, mwi]
  simp only [Option.bind_some]
  by_cases ha : ∃ k, k < nw ∧ a = nI k
  · by_cases hb : 0 ≤ b ∧ b ≤ 1
    · by_cases hc : 0 ≤ c ∧ c ≤ 2
      · simp only [ha, hb, hc, and_self, if_true, z10, if_false]
        obtain ⟨w, hw, rfl⟩ := ha
        obtain ⟨x, -, hx2, rfl⟩ := zl_nat (a := 0) (b := 1) hb (by omega) (by omega)
        obtain ⟨y, -, hy2, rfl⟩ := zl_nat (a := 0) (b := 2) hc (by omega) (by omega)
        obtain ⟨a1, a2, a3, a4, a5⟩ := w1.2 w hw
        obtain ⟨I1, i1, i2, i3, i4⟩ := c_goes hWT hC w1 w2 hw (show x < 2 by omega)
        obtain ⟨J1, j1, j2, j3, j4, j5, j6, j7⟩ := m_goes hWT hM w1 w3 hw (show x < 2 by omega)
        have hp : 2 * bg w + x < 2 * ns := by omega
        generalize 2 * bg w + x = p at i1 i2 i3 j1 j2 j3 j4 j5 j6 hp
        have hg := zgk_le (T := T) (eg := eg w) (p := p) (sp w)
        have hR : rR I1 J1 := rR_cg h (fun c k hc => i4 c k (by unfold zwrel zxrel at hc; omega) (by unfold zwrel zxrel at hc; omega)) (fun k hk => j7 1 k (by omega) (by omega) (by omega)) (fun c k hc => by unfold mxrel at hc; exact j7 c k (by omega) (by omega) (by omega))
        have h := hR
        rw [i1, j1]
        simp only [Option.bind_some]
        by_cases hz : zpl T (eg w) p (sp w) = none
        · simp only [hz, if_true]
          exact zSim_e (zsim_err h (k := 3) (by omega) (by omega) rfl (by decide))
        · simp only [hz, if_false, z10]
          have hK := zgk_full.mpr hz
          rw [hK] at i2 i3 j2 j3 j4 j5 j6
          rw [c_end i2 a3 (i3 (sp w) (Nat.le_refl _))]
          have hx0 : nI y = 0 ↔ y = 0 := nI_eq (b := 0) (by omega) (by omega)
          have hx1 : nI y = 1 ↔ y = 1 := nI_eq (b := 1) (by omega) (by omega)
          simp only [hx0, hx1]
          obtain ⟨I2, u1, u2⟩ := c_whours hWT hC w1 w2 hw hp (Nat.le_refl (sp w)) (by rw [hK] at hg; exact hg.2) (sp w) 0 100 I1 (by omega) (by omega) i2 i3 (fun c j h1 h2 _ _ => i4 c j h1 h2)
          have u3 : fc_Walker_hours I1 (nI w) = some (nI (zhs T (eg w) p (sp w)), I2) := u1
          have u4 : fc_Walker_turns I1 = some (nI (zts T (eg w) p (sp w))) := c_turns a3 i2 i3 (sp w) 0 100 (by omega) (by omega)
          by_cases hy0 : y = 0
          · simp only [hy0, if_true, Option.bind_some]
            exact zSim_i rfl (by rw [j2]) h
          · by_cases hy1 : y = 1
            · simp only [hy1, if_true, z10, u3, Option.bind_some, show ¬ 1 = 0 by omega, if_false]
              exact zSim_i rfl (by rw [j3]) (rR_cg h (fun c k hc => u2 c k (by unfold zwrel zxrel at hc; omega) (by unfold zwrel zxrel at hc; omega)) (fun _ _ => rfl) (fun _ _ _ => rfl))
            · simp only [hy0, hy1, if_false, u4, Option.bind_some]
              exact zSim_i rfl (by rw [j4]) h
      · simp only [ha, hb, hc, and_self, if_true, z10, if_false]
        exact zSim_e (zsim_err h (k := 1) (by omega) (by omega) rfl (by decide))
    · simp only [ha, hb, if_true, z10, if_false]
      exact zSim_e (zsim_err h (k := 1) (by omega) (by omega) rfl (by decide))
  · simp only [ha, if_true, if_false]
    exact zSim_e (zsim_err h (k := 1) (by omega) (by omega) rfl (by decide))
theorem sim_stops {I J : zI} (h : rR I J) (a : Int32) : zSim (fc_T_stops I a) (fm_stops J a) := by
  obtain ⟨⟨⟨ns, nj, cs, ea, eb, tt, nw, kd, bg, sp, mk, eg, np, pl, hr, nt, ly, wo, al, dm, nf, fw, fo, hG, hW, hF, hD⟩, hT, hP⟩, hX⟩ := id h
  obtain ⟨g1, g2, g3⟩ := id hG
  obtain ⟨c1, c2, c3, c4, c5⟩ := id g2
  obtain ⟨m1, m2, m3, m4⟩ := id g3
  have hns := g1.1
  have hnj := g1.2.1
  obtain ⟨t, t1, t2, t3⟩ := id hT.1
  have hWT := mk_wT g1 t
  have hC := mk_cT g1 g2 t1 t2
  have hM := mk_mT g1 g3 t1 t3
  generalize zcr nj cs ea eb tt t = T at hWT hC hM
  obtain ⟨w1, w2, w3⟩ := id hW
  have hnw := w1.1
  unfold fc_T_stops fm_stops
  rw [c_hasWalk w2.1 hnw, m_is (a := 2) (c := 2) rfl (by omega) w3.1 (by omega)]
  simp only [Option.bind_some]
  by_cases ha : ∃ k, k < nw ∧ a = nI k
  · simp only [ha, if_true, z10, if_false]
    obtain ⟨w, hw, rfl⟩ := ha
    obtain ⟨a1, a2, a3, a4, a5⟩ := w1.2 w hw
    obtain ⟨I1, i1, i2, i3, i4⟩ := c_goes hWT hC w1 w2 hw (show 0 < 2 by omega)
    obtain ⟨J1, j1, j2, j3, j4, j5, j6, j7⟩ := m_goes hWT hM w1 w3 hw (show 0 < 2 by omega)
    have hR : rR I1 J1 := rR_cg h (fun c k hc => i4 c k (by unfold zwrel zxrel at hc; omega) (by unfold zwrel zxrel at hc; omega)) (fun k hk => j7 1 k (by omega) (by omega) (by omega)) (fun c k hc => by unfold mxrel at hc; exact j7 c k (by omega) (by omega) (by omega))
    have h := hR
    rw [k_0, i1, j1]
    simp only [Option.bind_some]
    by_cases hz : zpl T (eg w) (2 * bg w + 0) (sp w) = none
    · simp only [hz, if_true, ← k_0]
      exact zSim_i rfl (by rw [j6, i2]) h
    · simp only [hz, if_false, ← k_0, z10]
      exact zSim_e (zsim_err h (k := 2) (by omega) (by omega) rfl (by decide))
  · simp only [ha, if_true, if_false]
    exact zSim_e (zsim_err h (k := 1) (by omega) (by omega) rfl (by decide))
