/-! text -/
theorem rR_text {I J I' J' : zI} (h : rR I J) (hT : rT I' (J' 1)) (i7 : I' 1 7 = 0) (j6 : J' 1 6 = 0) (e : ∀ c k, (c = 1 ∧ 8 ≤ k ∨ 2 ≤ c ∧ c ≤ 28 ∨ c = 29 ∧ k < 2 ∨ c = 30 ∨ c = 31 ∨ c = 46 ∨ zxrel c k) → I' c k = I c k) (e2 : ∀ k, k < 324 → k ≠ 6 → J' 1 k = J 1 k) (e3 : ∀ c k, mxrel c k → J' c k = J c k) : rR I' J' := by
  obtain ⟨⟨hL, _, _, ⟨m, h5, h6, h7, h8⟩, h9⟩, hX⟩ := id h
  refine ⟨⟨rL_cg hL (fun c k hc => e c k (by omega)) (fun k hk => e2 k (by omega) (by omega)), hT, ⟨0, fun _ => 0, by omega, i7, j6, fun k hk => by omega⟩, ⟨m, h5, by rw [e 1 9 (by omega)]; exact h6, by rw [e2 7 (by omega) (by omega)]; exact h7, fun k hk => ?_⟩, by rw [e 1 10 (by omega), e2 8 (by omega) (by omega)]; exact h9⟩, rX_cg hX (fun c k hc => e c k (Or.inr (Or.inr (Or.inr (Or.inr (Or.inr (Or.inr hc))))))) e3⟩
  rw [e 46 k (by omega), e2 (300 + k) (by omega) (by omega)]
  exact h8 k hk
theorem m_text_L {u len : Nat} (hu : u < 2) (hlen : len ≤ 60) : ∀ (m k fuel : Nat) (V : zI), k + m = len → m < fuel → V 0 11 = nI len → V 0 8 = nI u → ∃ V', fm_text_L120 fuel (nI k) V = some (1, V') ∧ (∀ j, k ≤ j → j < len → V' 1 (324 + 62 * u + 1 + j) = V 6 j) ∧ ∀ c j, ¬ (c = 1 ∧ 324 + 62 * u + 1 + k ≤ j ∧ j < 324 + 62 * u + 1 + len) → V' c j = V c j := by
  intro m
  induction m with
  | zero =>
    intro k fuel V hk hf h11 h8
    obtain ⟨f, rfl⟩ : ∃ g, fuel = g + 1 := ⟨fuel - 1, by omega⟩
    exact ⟨V, by rw [fm_text_L120, h11, if_pos (nI_le (by omega) (by omega))], fun j h1 h2 => by omega, fun _ _ _ => rfl⟩
  | succ m ih =>
    intro k fuel V hk hf h11 h8
    obtain ⟨f, rfl⟩ : ∃ g, fuel = g + 1 := ⟨fuel - 1, by omega⟩
    obtain ⟨V', r1, r2, r3⟩ := ih (k + 1) f (zup V 1 (324 + 62 * u + 1 + k) (V 6 k)) (by omega) (by omega) (by rw [zup_o (by omega)]; exact h11) (by rw [zup_o (by omega)]; exact h8)
    refine ⟨V', ?_, fun j h1 h2 => ?_, fun c j hc => by rw [r3 c j (by omega), zup_o (by omega)]⟩
    · rw [fm_text_L120, h11, h8, if_neg (nI_ge (by omega) (by omega)), k_324, k_62, zl_mul, zl_add, nI_1, nI_1, zl_add, zl_b (by omega), zl_b (by omega), show decide (k < 60) = true from decide_eq_true (by omega), show decide (324 + 62 * u + 1 + k < 448) = true from decide_eq_true (by omega), zl_cl _ (by omega), zl_cl _ (by omega)]
      exact r1
    · by_cases e : j = k
      · subst e
        rw [r3 _ _ (by omega), zup_y]
      · rw [r2 j (by omega) h2, zup_o (by omega)]
theorem sim_text {I J : zI} (h : rR I J) (a : Int32) : zSim (fc_T_text I a) (fm_text J a) := by
  obtain ⟨⟨⟨ns, nj, cs, ea, eb, tt, nw, kd, bg, sp, mk, eg, np, pl, hr, nt, ly, wo, al, dm, nf, fw, fo, hG, hW, hF, hD⟩, hT, hP⟩, hX⟩ := id h
  obtain ⟨g1, g2, g3⟩ := id hG
  obtain ⟨c1, c2, c3, c4, c5⟩ := id g2
  obtain ⟨m1, m2, m3, m4⟩ := id g3
  have hns := g1.1
  have hnj := g1.2.1

  obtain ⟨⟨n, b, hn, hI7, hJ6, hbk⟩, _, _⟩ := id hP
  unfold fc_T_text fm_text
  rw [cwi, mwi, Option.bind_some, Option.bind_some]
  by_cases ha : 0 ≤ a ∧ a ≤ 1
  · simp only [ha, and_self, if_true, z10, if_false]
    obtain ⟨u, _, hu1, rfl⟩ := zl_nat (a := 0) (b := 1) ha (by omega) (by omega)
    have hu : u < 2 := by omega
    have hstart : zgd u n 0 b 0 [] (zup (zup (zup (zup (zcopy I 45 183 (0 : Int32) (0 : Int32) (60 : Int32)) 180 5 (I 1 7)) 180 6 (nI u)) 180 2 (0 : Int32)) 180 3 (0 : Int32)) (zup (zup (zup (zup (zup J 0 8 (nI u)) 0 6 (0 : Int32)) 0 7 (0 : Int32)) 0 9 (0 : Int32)) 0 11 (0 : Int32)) := by
      refine ⟨⟨hn, Nat.zero_le _, Nat.zero_le _, hu, by omega, fun k hk => (hbk k hk).1⟩, ⟨?_, zup_y, ?_, ?_, fun k hk => ?_, fun k hk => absurd hk (Nat.not_lt_zero k)⟩, ⟨zup_y, ?_, ?_, ?_, ?_, ?_, fun k hk => ?_, fun k hk => absurd hk (Nat.not_lt_zero k)⟩⟩
      · rw [zup_o (by omega), zup_y]; rfl
      · rw [zup_o (by omega), zup_o (by omega), zup_o (by omega), zup_y]; exact hI7
      · rw [zup_o (by omega), zup_o (by omega), zup_y]
      · rw [zup_o (by omega), zup_o (by omega), zup_o (by omega), zup_o (by omega), zcp_i60 (by omega)]
        exact (hbk k hk).2.1
      · rw [zup_o (by omega), zup_o (by omega), zup_o (by omega), zup_y]; rfl
      · rw [zup_o (by omega), zup_o (by omega), zup_o (by omega), zup_o (by omega), zup_o (by omega)]; exact hJ6
      · rw [zup_o (by omega), zup_o (by omega), zup_o (by omega), zup_o (by omega), zup_y]
      · rw [zup_o (by omega), zup_o (by omega), zup_y]; rfl
      · rw [zup_o (by omega), zup_y]
      · rw [zup_o (by omega), zup_o (by omega), zup_o (by omega), zup_o (by omega), zup_o (by omega)]
        exact (hbk k hk).2.2
    obtain ⟨V1, U1, q1, q2, q3, q4⟩ := zeither (rcC := fc_Reader_readSingle 40) (rcM := fm_one 40) (fun p l V U hg => zsingles 5 0 40 p l V U (by omega) (by omega) hg) hstart
    have hV1 : ∀ c j, c ≠ 180 → c ≠ 181 → c ≠ 182 → c ≠ 183 → V1 c j = I c j := fun c j h1 h2 h3 h4 => by
      rw [q2 c j (by omega) h2 h3, zup_o (by omega), zup_o (by omega), zup_o (by omega), zup_o (by omega), zcp_o (by omega)]
    have hU1 : ∀ c j, ¬ (c = 0 ∧ 6 ≤ j ∧ j ≤ 11) → c ≠ 6 → U1 c j = J c j := fun c j h1 h2 => by
      rw [q3 c j (by omega) h2, zup_o (by omega), zup_o (by omega), zup_o (by omega), zup_o (by omega), zup_o (by omega)]
    have hU8 : U1 0 8 = nI u := by
      rw [q3 0 8 (by omega) (by omega), zup_o (by omega), zup_o (by omega), zup_o (by omega), zup_o (by omega), zup_y]
    have hbad : rR (zup V1 1 7 0) (zup (zup U1 0 9 1) 1 6 0) := by
      refine rR_text h (rT_cg hT (fun c k hc => by rw [zup_o (by omega)]; exact hV1 c k (by omega) (by omega) (by omega) (by omega)) (fun k h1 h2 => by rw [zup_o (by omega), zup_o (by omega)]; exact hU1 1 k (by omega) (by omega))) zup_y zup_y (fun c k hc => ?_) (fun k h1 h2 => by rw [zup_o (by omega), zup_o (by omega)]; exact hU1 1 k (by omega) (by omega)) (fun c k hc => ?_)
      · unfold zxrel at hc
        rw [zup_o (by omega)]
        exact hV1 c k (by omega) (by omega) (by omega) (by omega)
      · unfold mxrel at hc
        rw [zup_o (by omega), zup_o (by omega)]
        exact hU1 c k (by omega) (by omega)
    unfold fc_Reader_read
    rw [q1, Option.bind_some]
    have hJ67 : fm_text_J67 U1 = some ((-10 : Int32) - U1 0 6, zup (zup U1 0 9 1) 1 6 0) := by
      unfold fm_text_J67 fm_text_J72
      rw [show zbb (1 : Int32) = true by decide, show (6 : Int32).toNatClampNeg = 6 from by decide]
      simp only [z_guard, if_true, z10, if_false]
    rcases q4 with ⟨k1, p', q, k2, k3, k4, k5⟩ | ⟨k1, k2⟩
    · obtain ⟨⟨e1, e2, e3, e4, e5, e6⟩, ⟨f1, f2, f3, f4, f5, f6⟩, ⟨g1', g2', g3', g4', g5', g6', g7', g8'⟩⟩ := id k4
      rw [show fc_Reader_readOr (fc_Reader_readSingle 40) _ (0 : Int32) = _ from k1, Option.bind_some, if_neg z10]
      show zSim ((if V1 180 3 = V1 180 5 then some ((1 : Int32), V1) else some ((0 : Int32), V1)).bind _) _
      rw [f2, f3, g6', if_pos rfl, show (6 : Int32).toNatClampNeg = 6 from by decide, g3', g2']
      by_cases hp : p' = n
      · rw [if_pos (show nI p' = nI n by rw [hp]), if_pos (nI_le (by omega) (by omega)), Option.bind_some, if_neg z10]
        rw [List.append_nil] at k4 k5 f1 f6 g1' g8' e3
        have hdep := k5 0 rfl
        have hwf : wfT (znn u) (some q) := ⟨by omega, hdep⟩
        obtain ⟨U2, m1', m2', m3'⟩ := m_text_L hu (show q.length ≤ 60 by omega) q.length 0 100 (zup (zup (zup U1 0 9 0) 1 6 0) 1 (324 + 62 * u) (nI q.length)) (by omega) (by omega) (by rw [zup_o (by omega), zup_o (by omega), zup_o (by omega)]; exact g1') (by rw [zup_o (by omega), zup_o (by omega), zup_o (by omega)]; exact hU8)
        have hJ : fm_text_J72 U1 0 = some (1, U2) := by
          unfold fm_text_J72
          rw [show zbb (0 : Int32) = true by decide, if_pos rfl, show (6 : Int32).toNatClampNeg = 6 from by decide, hU8, k_324, k_62, zl_mul, zl_add, zl_b (by omega), show decide (324 + 62 * u < 448) = true from decide_eq_true (by omega), zl_cl _ (by omega), g1']
          exact m1'
        rw [hJ]
        have hU2 : ∀ c j, ¬ (c = 0 ∧ 6 ≤ j ∧ j ≤ 11) → c ≠ 6 → ¬ (c = 1 ∧ j = 6) → ¬ (c = 1 ∧ 324 + 62 * u ≤ j ∧ j < 324 + 62 * u + 62) → U2 c j = J c j := fun c j h1 h2 h3 h4 => by
          rw [m3' c j (by omega), zup_o (by omega), zup_o (by omega), zup_o (by omega)]
          exact hU1 c j h1 h2
        have hM2 : tM (U2 1) (324 + 62 * u) (some q) := by
          refine ⟨by rw [m3' _ _ (by omega), zup_y], fun k hk => ?_⟩
          rw [m2' k (by omega) hk, zup_o (by omega), zup_o (by omega), zup_o (by omega)]
          exact g8' k hk
        have h6 : U2 1 6 = 0 := by rw [m3' _ _ (by omega), zup_o (by omega), zup_y]
        show zSim ((fc_T_textOf (zup V1 1 7 0) (nI u)).bind _) _
        rcases (show u = 0 ∨ u = 1 by omega) with rfl | rfl
        · rw [show fc_T_textOf (zup V1 1 7 0) (nI 0) = some 35 from rfl, Option.bind_some]
          show zSim (some ((1 : Int32), zcopy (zcopy (zup (zup (zup V1 1 7 0) 35 0 (1 : Int32)) 35 1 (zup V1 1 7 0 180 2)) 181 36 (0 : Int32) (0 : Int32) (60 : Int32)) 182 37 (0 : Int32) (0 : Int32) (60 : Int32))) _
          refine zSim_i rfl rfl (rR_text h ⟨⟨some q, hwf, ?_, hM2⟩, ?_⟩ ?_ h6 (fun c k hc => ?_) (fun k j1 j2 => hU2 1 k (by omega) (by omega) (by omega) (by omega)) (fun c k hc => ?_))
          · refine ⟨?_, ?_, fun k hk => ⟨?_, ?_⟩⟩
            · rw [zcp_o (by omega), zcp_o (by omega), zup_o (by omega), zup_y]
            · rw [zcp_o (by omega), zcp_o (by omega), zup_y, zup_o (by omega)]; exact f1
            · rw [zcp_o (by omega), zcp_i60 (by omega), zup_o (by omega), zup_o (by omega), zup_o (by omega)]; exact (f6 k hk).1
            · rw [zcp_i60 (by omega), zcp_o (by omega), zup_o (by omega), zup_o (by omega), zup_o (by omega)]; exact (f6 k hk).2
          · obtain ⟨t, t1, t2, t3⟩ := hT.2
            exact ⟨t, t1, tC_cg t2 (fun c k j1 j2 => by
              rw [zcp_o (by omega), zcp_o (by omega), zup_o (by omega), zup_o (by omega), zup_o (by omega)]
              exact hV1 c k (by omega) (by omega) (by omega) (by omega)), tM_cg t1 t3 (fun k j1 j2 => hU2 1 k (by omega) (by omega) (by omega) (by omega))⟩
          · rw [zcp_o (by omega), zcp_o (by omega), zup_o (by omega), zup_o (by omega), zup_y]
          · unfold zxrel at hc
            rw [zcp_o (by omega), zcp_o (by omega), zup_o (by omega), zup_o (by omega), zup_o (by omega)]
            exact hV1 c k (by omega) (by omega) (by omega) (by omega)
          · unfold mxrel at hc
            exact hU2 c k (by omega) (by omega) (by omega) (by omega)
        · rw [show fc_T_textOf (zup V1 1 7 0) (nI 1) = some 40 from rfl, Option.bind_some]
          show zSim (some ((1 : Int32), zcopy (zcopy (zup (zup (zup V1 1 7 0) 40 0 (1 : Int32)) 40 1 (zup V1 1 7 0 180 2)) 181 41 (0 : Int32) (0 : Int32) (60 : Int32)) 182 42 (0 : Int32) (0 : Int32) (60 : Int32))) _
          refine zSim_i rfl rfl (rR_text h ⟨?_, ⟨some q, hwf, ?_, hM2⟩⟩ ?_ h6 (fun c k hc => ?_) (fun k j1 j2 => hU2 1 k (by omega) (by omega) (by omega) (by omega)) (fun c k hc => ?_))
          · obtain ⟨t, t1, t2, t3⟩ := hT.1
            exact ⟨t, t1, tC_cg t2 (fun c k j1 j2 => by
              rw [zcp_o (by omega), zcp_o (by omega), zup_o (by omega), zup_o (by omega), zup_o (by omega)]
              exact hV1 c k (by omega) (by omega) (by omega) (by omega)), tM_cg t1 t3 (fun k j1 j2 => hU2 1 k (by omega) (by omega) (by omega) (by omega))⟩
          · refine ⟨?_, ?_, fun k hk => ⟨?_, ?_⟩⟩
            · rw [zcp_o (by omega), zcp_o (by omega), zup_o (by omega), zup_y]
            · rw [zcp_o (by omega), zcp_o (by omega), zup_y, zup_o (by omega)]; exact f1
            · rw [zcp_o (by omega), zcp_i60 (by omega), zup_o (by omega), zup_o (by omega), zup_o (by omega)]; exact (f6 k hk).1
            · rw [zcp_i60 (by omega), zcp_o (by omega), zup_o (by omega), zup_o (by omega), zup_o (by omega)]; exact (f6 k hk).2
          · rw [zcp_o (by omega), zcp_o (by omega), zup_o (by omega), zup_o (by omega), zup_y]
          · unfold zxrel at hc
            rw [zcp_o (by omega), zcp_o (by omega), zup_o (by omega), zup_o (by omega), zup_o (by omega)]
            exact hV1 c k (by omega) (by omega) (by omega) (by omega)
          · unfold mxrel at hc
            exact hU2 c k (by omega) (by omega) (by omega) (by omega)
      · rw [if_neg (show ¬ nI p' = nI n from fun e => hp ((nI_eq (by omega) (by omega)).mp e)), if_neg (nI_ge (by omega) (by omega)), Option.bind_some, if_pos rfl, hJ67, g2']
        show zSim (some ((-10 : Int32) - V1 180 3, zup V1 1 7 0)) _
        rw [f2]
        exact zSim_i rfl rfl hbad
    · obtain ⟨p', z1, z2, z3, z4, z5⟩ := k2
      rw [show fc_Reader_readOr (fc_Reader_readSingle 40) _ (0 : Int32) = _ from k1, Option.bind_some, if_pos rfl, Option.bind_some, if_pos rfl, z4, if_neg z10, hJ67, z3]
      show zSim (some ((-10 : Int32) - V1 180 3, zup V1 1 7 0)) _
      rw [z2]
      exact zSim_i rfl rfl hbad
  · simp only [ha, if_true, if_false]
    exact zSim_e (zsim_err h (k := 1) (by omega) (by omega) rfl (by decide))
