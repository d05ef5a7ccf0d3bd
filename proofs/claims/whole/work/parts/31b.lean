theorem vbind_eta {o : Option (Int32 × zI)} : (o.bind fun r => some (r.1, r.2)) = o := by cases o <;> rfl
theorem vneg (x : Int32) : -x = 0 - x := by
  apply Int32.toBitVec_inj.mp
  show -x.toBitVec = 0#32 - x.toBitVec
  simp
theorem vS_leaf {w n K k v f : Nat} (hw : w < 10) (hk : k < 7) (hv : v < 4) (G : Int32 → Int32 → Int32)
    (hC : ∀ rc I x d, fc_Voices_work rc I (nI (zfb k v)) (nI (zfk k v)) x d = some (G x (I 184 4), I))
    (hM : ∀ rc J x, fm_body rc J (nI (zfk k v)) (nI v) x = (fm_walkOf J (J 0 26) 2).bind fun _ => (fm_began J (nI (zfb k v))).bind fun r => some (G x (r 0 26), r)) : vS w n K k v (f + 1) := by
  refine vS_of hw hk hv _ (fun _ r _ x => some (G x (r 0 26), r)) hC hM ?_
  intro fc fm d h1 h2 h3 I J x hR h0
  exact ⟨_, _, _, _, rfl, rfl, hR, fun _ => by rw [hR.2.2.1, hR.2.2.2.2.1]⟩
theorem vS_goes {w n K k : Nat} (hw : w < 10) (hk : k < 7) : vS w n K k 0 3 := by
  have s0 : vS w n K 0 0 1 := vS_leaf hw (by omega) (by omega) (fun x a => x + a) (fun _ _ _ _ => rfl) (fun _ _ _ => rfl)
  have s1 : vS w n K 1 0 2 := vS_one (kk := 0) (vv := 0) hw (by omega) (by omega) (fun x => x) (fun r _ _ => r - 7) s0 (fun _ _ _ _ => rfl) (fun _ _ _ => rfl)
  have s2 : vS w n K 2 0 2 := vS_one (kk := 0) (vv := 0) hw (by omega) (by omega) (fun x => x) (fun r _ _ => r - 7) s0 (fun _ _ _ _ => rfl) (fun _ _ _ => rfl)
  rcases (show k = 0 ∨ k = 1 ∨ k = 2 ∨ k = 3 ∨ k = 4 ∨ k = 5 ∨ k = 6 by omega) with rfl | rfl | rfl | rfl | rfl | rfl | rfl
  · exact vS_mono s0 (by omega)
  · exact vS_mono s1 (by omega)
  · exact vS_mono s2 (by omega)
  · exact vS_one (kk := 1) (vv := 0) hw (by omega) (by omega) (fun x => x) (fun r a _ => r ^^^ a) s1 (fun _ _ _ _ => rfl) (fun _ _ _ => rfl)
  · exact vS_leaf hw (by omega) (by omega) (fun x a => x + a) (fun _ _ _ _ => rfl) (fun _ _ _ => rfl)
  · exact vS_leaf hw (by omega) (by omega) (fun _ _ => 2) (fun _ _ _ _ => rfl) (fun _ _ _ => rfl)
  · exact vS_one (kk := 2) (vv := 0) hw (by omega) (by omega) (fun x => x) (fun r _ _ => r * 3) s2 (fun _ _ _ _ => rfl) (fun _ _ _ => rfl)
theorem vS_turns {w n K k : Nat} (hw : w < 10) (hK : K < 7) (hk : k < 7) : vS w n K k 1 5 := by
  have o := vS_goes (w := w) (n := n) (K := K) hw hK
  have s0 : vS w n K 0 1 4 := vS_own (vv := 0) hw (by omega) (by omega) (fun x => x) (fun r _ _ => r * 2) o (fun _ _ _ _ => rfl) (fun _ _ _ => rfl)
  have s1 : vS w n K 1 1 4 := vS_own (vv := 0) hw (by omega) (by omega) (fun x => x) (fun r _ _ => r * 2) o (fun _ _ _ _ => rfl) (fun _ _ _ => rfl)
  rcases (show k = 0 ∨ k = 1 ∨ k = 2 ∨ k = 3 ∨ k = 4 ∨ k = 5 ∨ k = 6 by omega) with rfl | rfl | rfl | rfl | rfl | rfl | rfl
  · exact vS_mono s0 (by omega)
  · exact vS_mono s1 (by omega)
  · exact vS_one (kk := 1) (vv := 1) hw (by omega) (by omega) (fun x => x) (fun r _ _ => 0 - r) s1 (fun _ _ _ _ => rfl) (fun _ _ _ => by simp only [← vneg]; rfl)
  · exact vS_mono (vS_own (vv := 0) hw (by omega) (by omega) (fun x => x) (fun r _ _ => r * 2) o (fun _ _ _ _ => rfl) (fun _ _ _ => rfl)) (Nat.le_succ 4)
  · exact vS_mono (vS_own (vv := 0) hw (by omega) (by omega) (fun x => x) (fun r _ _ => r * 2) o (fun _ _ _ _ => rfl) (fun _ _ _ => rfl)) (Nat.le_succ 4)
  · exact vS_one (kk := 0) (vv := 1) hw (by omega) (by omega) (fun x => x) (fun r _ b => r + b) s0 (fun _ _ _ _ => rfl) (fun _ _ _ => rfl)
  · exact vS_one (kk := 1) (vv := 1) hw (by omega) (by omega) (fun x => x) (fun r _ _ => 0 - r) s1 (fun _ _ _ _ => rfl) (fun _ _ _ => by simp only [← vneg]; rfl)
theorem vS_meets {w n K k : Nat} (hw : w < 10) (hK : K < 7) (hk : k < 7) : vS w n K k 2 7 := by
  have o := vS_turns (w := w) (n := n) (K := K) hw hK hK
  have s0 : vS w n K 0 2 6 := vS_own (vv := 1) hw (by omega) (by omega) (fun x => x) (fun r _ b => r - b) o (fun _ _ _ _ => rfl) (fun _ _ _ => rfl)
  have s1 : vS w n K 1 2 6 := vS_own (vv := 1) hw (by omega) (by omega) (fun x => x) (fun r _ b => r - b) o (fun _ _ _ _ => rfl) (fun _ _ _ => rfl)
  rcases (show k = 0 ∨ k = 1 ∨ k = 2 ∨ k = 3 ∨ k = 4 ∨ k = 5 ∨ k = 6 by omega) with rfl | rfl | rfl | rfl | rfl | rfl | rfl
  · exact vS_mono s0 (by omega)
  · exact vS_mono s1 (by omega)
  · exact vS_mono (vS_own (vv := 1) hw (by omega) (by omega) (fun x => x) (fun r _ b => r - b) o (fun _ _ _ _ => rfl) (fun _ _ _ => rfl)) (Nat.le_succ 6)
  · exact vS_one (kk := 1) (vv := 2) hw (by omega) (by omega) (fun x => x / 2) (fun r _ _ => r) s1 (fun _ _ _ _ => rfl) (fun _ _ _ => rfl)
  · exact vS_one (kk := 0) (vv := 2) hw (by omega) (by omega) (fun x => x + 1) (fun r _ _ => r) s0 (fun _ _ _ _ => rfl) (fun _ _ _ => rfl)
  · exact vS_mono (vS_own (vv := 1) hw (by omega) (by omega) (fun x => x) (fun r _ b => r - b) o (fun _ _ _ _ => rfl) (fun _ _ _ => rfl)) (Nat.le_succ 6)
  · exact vS_mono (vS_own (vv := 1) hw (by omega) (by omega) (fun x => x) (fun r _ b => r - b) o (fun _ _ _ _ => rfl) (fun _ _ _ => rfl)) (Nat.le_succ 6)
theorem vsub0 {a b : Nat} (ha : a < 2 ^ 31) (hb : b < 2 ^ 31) : nI a - nI b = 0 ↔ a = b := by
  constructor
  · intro e
    have e2 : nI a = nI b := by
      have := congrArg (· + nI b) e
      simp only [Int32.sub_add_cancel, Int32.zero_add] at this
      exact this
    exact (nI_eq ha hb).mp e2
  · rintro rfl; exact Int32.sub_self _
theorem vS_13 {w n K k : Nat} (hw : w < 10) (hn : n ≤ 8) (hk : k < 7) (hb : zfb k 3 = 13) (hz : zfk k 3 = 0) : vS w n K k 3 1 := by
  refine vS_of (f := 0) hw hk (by omega) (fun _ I x _ => (fc_Voices_divide I x).bind fun r10 => some (r10.1, r10.2)) (fun _ r17 r1 x => if r1 = (r17 0 26) then some (0, zup r17 0 27 1) else if (r1 - (r17 0 26)) = 0 then none else some (x / (r1 - (r17 0 26)), zup r17 0 27 0)) (fun _ _ _ _ => by rw [hb, hz]; rfl) (fun _ _ _ => by rw [hb, hz]; rfl) ?_
  intro fc fm d h1 h2 h3 I J x hR h0
  obtain ⟨q1, q2, q3, q4, q5, q6, q7, q8⟩ := id hR
  rw [vbind_eta]
  unfold fc_Voices_divide
  rw [q3, q4, q5]
  have e1 := vsub0 (a := n) (b := w) (by omega) (by omega)
  have e2 := nI_eq (a := n) (b := w) (by omega) (by omega)
  have hu : ∀ y z : Int32, vR w n K I J → y = z → vR w n K (zup I 184 2 y) (zup J 0 27 z) := fun y z _ e => ⟨rR_cg q1 (fun c k hc => zup_o (by unfold zwrel zxrel at hc; omega)) (fun _ _ => zup_o (by omega)) (fun c k hc => zup_o (by unfold mxrel at hc; omega)), by (unfold zup; repeat (first | rw [if_neg (by omega)] | rw [if_pos (by omega)])); exact q2, by (unfold zup; repeat (first | rw [if_neg (by omega)] | rw [if_pos (by omega)])); exact q3, by (unfold zup; repeat (first | rw [if_neg (by omega)] | rw [if_pos (by omega)])); exact q4, by (unfold zup; repeat (first | rw [if_neg (by omega)] | rw [if_pos (by omega)])); exact q5, by rw [zup_y, zup_y]; exact e, by (unfold zup; repeat (first | rw [if_neg (by omega)] | rw [if_pos (by omega)])); exact q7, by (unfold zup; repeat (first | rw [if_neg (by omega)] | rw [if_pos (by omega)])); exact q8⟩
  by_cases hnw : n = w
  · rw [if_pos (e1.mpr hnw), if_pos (e2.mpr hnw)]
    exact ⟨_, _, _, _, rfl, rfl, hu 1 1 hR rfl, fun _ => rfl⟩
  · rw [if_neg (fun q => hnw (e1.mp q)), if_neg (fun q => hnw (e1.mp q)), if_neg (fun q => hnw (e2.mp q)), if_neg (fun q => hnw (e1.mp q))]
    refine ⟨_, _, _, _, rfl, rfl, ?_, fun _ => rfl⟩
    refine ⟨rR_cg q1 (fun _ _ _ => rfl) (fun _ _ => zup_o (by omega)) (fun c k hc => zup_o (by unfold mxrel at hc; omega)), q2, q3, q4, by (unfold zup; repeat (first | rw [if_neg (by omega)] | rw [if_pos (by omega)])); exact q5, by rw [zup_y]; exact h0, by (unfold zup; repeat (first | rw [if_neg (by omega)] | rw [if_pos (by omega)])); exact q7, by (unfold zup; repeat (first | rw [if_neg (by omega)] | rw [if_pos (by omega)])); exact q8⟩
theorem vS_ends {w n K k : Nat} (hw : w < 10) (hn : n ≤ 8) (hK : K < 7) (hk : k < 7) : vS w n K k 3 8 := by
  have ot := vS_turns (w := w) (n := n) (K := K) hw hK hK
  have om := vS_meets (w := w) (n := n) (K := K) hw hK hK
  have s0 : vS w n K 0 3 1 := vS_13 hw hn (by omega) rfl rfl
  have rd : ∀ k, k < 7 → zfb k 3 = 21 → zfk k 3 = 1 → vS w n K k 3 6 := fun k hk hb hz => vS_end (kk := 0) (vv := 1) (y := 1) hw hk hK (by omega) (fun a b => a + b) (vS_mono s0 (by omega)) ot (fun rc I x d => by
    rw [hb, hz]
    show (fc_Voices_endsRound rc I (nI 0) x d).bind (fun r16 => some (r16.1, r16.2)) = _
    rw [vbind_eta]; rfl) (fun _ _ _ => by rw [hb, hz]; rfl) (by omega)
  rcases (show k = 0 ∨ k = 1 ∨ k = 2 ∨ k = 3 ∨ k = 4 ∨ k = 5 ∨ k = 6 by omega) with rfl | rfl | rfl | rfl | rfl | rfl | rfl
  · exact vS_mono s0 (by omega)
  · exact vS_mono (rd 1 (by omega) rfl rfl) (by omega)
  · exact vS_mono (rd 2 (by omega) rfl rfl) (by omega)
  · exact vS_mono (rd 3 (by omega) rfl rfl) (by omega)
  · exact vS_mono (vS_13 hw hn (by omega) rfl rfl) (by omega)
  · exact vS_mono (vS_13 hw hn (by omega) rfl rfl) (by omega)
  · exact vS_end (kk := 2) (vv := 2) (y := 0) hw (by omega) hK (by omega) (fun a b => a - b) (vS_mono (rd 2 (by omega) rfl rfl) (by omega)) om (fun rc I x d => by
      show (fc_Voices_endsWhole rc I (nI 2) x d).bind (fun r16 => some (r16.1, r16.2)) = _
      rw [vbind_eta]; rfl) (fun _ _ _ => rfl) (by omega)
theorem sim_voice {I J : zI} (h : rR I J) (a b x : Int32) : zSim (fc_T_voice I a b x) (fm_voice J a b x) := by
  obtain ⟨⟨⟨ns, nj, cs, ea, eb, tt, nw, kd, bg, sp, mk, eg, np, pl, hr, nt, ly, wo, al, dm, nf, fw, fo, hG, hW, hF, hD⟩, hT, hP⟩, hX⟩ := id h
  obtain ⟨g1, g2, g3⟩ := id hG
  obtain ⟨c1, c2, c3, c4, c5⟩ := id g2
  obtain ⟨m1, m2, m3, m4⟩ := id g3
  have hns := g1.1
  have hnj := g1.2.1
  obtain ⟨w1, w2, w3⟩ := id hW
  have hnw := w1.1
  unfold fc_T_voice fm_voice
  rw [c_hasWalk w2.1 hnw, m_is (a := 2) (c := 2) rfl (by omega) w3.1 (by omega), mwi, cwi]
  simp only [Option.bind_some]
  by_cases ha : ∃ k, k < nw ∧ a = nI k
  · by_cases hb : 0 ≤ b ∧ b ≤ 3
    · simp only [ha, hb, and_self, if_true, z10, if_false]
      obtain ⟨w, hw, rfl⟩ := ha
      obtain ⟨v, -, hv, rfl⟩ := zl_nat (a := 0) (b := 3) hb (by omega) (by omega)
      obtain ⟨a1, a2, a3, a4, a5⟩ := w1.2 w hw
      obtain ⟨b1, b2, b3, b4, b5⟩ := w2.2 w hw
      obtain ⟨d1, d2, d3, d4, d5⟩ := w3.2 w hw
      rw [zl_b (by omega), show decide (w < 10) = true from decide_eq_true (by omega), zl_cl w (by omega), b1, b3]
      simp only [z_guard, if_true]
      unfold fc_Voices_speak fm_voiced
      obtain ⟨x1, x2, x3, x4, m, x5, x6, x7, x8⟩ := id hX
      have hR : vR w (sp w) (kd w) (zup (zup (zup (zup (zup I 184 3 (nI (kd w))) 184 4 (nI w)) 184 5 (nI (sp w))) 184 1 0) 184 2 0) (zup (zup (zup J 0 25 0) 0 26 (nI w)) 0 27 0) := by
        refine ⟨⟨rW_cg h.1 (fun c k hc => by unfold zwrel at hc; (unfold zup; repeat (first | rw [if_neg (by omega)] | rw [if_pos (by omega)]))) (fun k hk => by (unfold zup; repeat (first | rw [if_neg (by omega)] | rw [if_pos (by omega)]))), fun s hs => ?_, fun k hk => ?_, ?_, ?_, 0, by omega, by (unfold zup; repeat (first | rw [if_neg (by omega)] | rw [if_pos (by omega)])); rfl, by (unfold zup; repeat (first | rw [if_neg (by omega)] | rw [if_pos (by omega)])); rfl, fun k hk => by omega⟩, by (unfold zup; repeat (first | rw [if_neg (by omega)] | rw [if_pos (by omega)])), by (unfold zup; repeat (first | rw [if_neg (by omega)] | rw [if_pos (by omega)])), by (unfold zup; repeat (first | rw [if_neg (by omega)] | rw [if_pos (by omega)])), by (unfold zup; repeat (first | rw [if_neg (by omega)] | rw [if_pos (by omega)])), by (unfold zup; repeat (first | rw [if_neg (by omega)] | rw [if_pos (by omega)])), by (unfold zup; repeat (first | rw [if_neg (by omega)] | rw [if_pos (by omega)])); exact d3, by (unfold zup; repeat (first | rw [if_neg (by omega)] | rw [if_pos (by omega)])); exact d1⟩
        · obtain ⟨u1, u2, u3, u4, u5⟩ := x1 s hs
          exact ⟨by (unfold zup; repeat (first | rw [if_neg (by omega)] | rw [if_pos (by omega)])); exact u1, by (unfold zup; repeat (first | rw [if_neg (by omega)] | rw [if_pos (by omega)])); exact u2, by (unfold zup; repeat (first | rw [if_neg (by omega)] | rw [if_pos (by omega)])); exact u3, by (unfold zup; repeat (first | rw [if_neg (by omega)] | rw [if_pos (by omega)])); exact u4, fun k hk => by (unfold zup; repeat (first | rw [if_neg (by omega)] | rw [if_pos (by omega)])); exact u5 k hk⟩
        · (unfold zup; repeat (first | rw [if_neg (by omega)] | rw [if_pos (by omega)])); exact x2 k hk
        · (unfold zup; repeat (first | rw [if_neg (by omega)] | rw [if_pos (by omega)])); exact x3
        · rcases x4 with x4 | x4
          · left; (unfold zup; repeat (first | rw [if_neg (by omega)] | rw [if_pos (by omega)])); exact x4
          · right
            exact rW_cg x4 (fun c k hc => by unfold zwrel at hc; show zup (zup (zup (zup (zup I 184 3 (nI (kd w))) 184 4 (nI w)) 184 5 (nI (sp w))) 184 1 0) 184 2 0 (c + 46) k = I (c + 46) k; (unfold zup; repeat (first | rw [if_neg (by omega)] | rw [if_pos (by omega)]))) (fun k hk => by (unfold zup; repeat (first | rw [if_neg (by omega)] | rw [if_pos (by omega)])))
      have h0 : (zup (zup (zup (zup (zup I 184 3 (nI (kd w))) 184 4 (nI w)) 184 5 (nI (sp w))) 184 1 0) 184 2 0) 184 2 = 0 := zup_y
      generalize zup (zup (zup (zup (zup I 184 3 (nI (kd w))) 184 4 (nI w)) 184 5 (nI (sp w))) 184 1 0) 184 2 0 = I1 at hR h0 ⊢
      generalize zup (zup (zup J 0 25 0) 0 26 (nI w)) 0 27 0 = J1 at hR ⊢
      have hwk : fm_walkOf J1 (J1 0 26) 0 = some (nI (kd w)) := by
        rw [hR.2.2.2.2.1, k_0, m_walkOf (by omega) (by omega), Nat.add_zero, hR.2.2.2.2.2.2.2]
      have key : vS w (sp w) (kd w) (kd w) v 8 := by
        rcases (show v = 0 ∨ v = 1 ∨ v = 2 ∨ v = 3 by omega) with rfl | rfl | rfl | rfl
        · exact vS_mono (vS_goes (by omega) a1) (by omega)
        · exact vS_mono (vS_turns (by omega) a1 a1) (by omega)
        · exact vS_mono (vS_meets (by omega) a1 a1) (by omega)
        · exact vS_ends (by omega) a3 a1 a1
      obtain ⟨r, I2, r', J2, s1, s2, s3, s4⟩ := key 40 40 0 (by omega) (by omega) (by omega) I1 J1 x hR h0
      have s1 : fc_Voices_say 40 I1 (nI (kd w)) (nI v) x 0 = some (r, I2) := s1
      rw [hwk, Option.bind_some, s1, s2]
      simp only [Option.bind_some]
      have h := s3.1
      rw [s3.2.2.2.2.2.1] at s4 ⊢
      by_cases hp : J2 0 27 = 0
      · simp only [hp, if_true]
        exact zSim_i rfl (by rw [s4 hp]) h
      · simp only [hp, if_false]
        exact zSim_e (zsim_err h (k := 6) (by omega) (by omega) rfl (by decide))
    · simp only [ha, hb, if_true, z10, if_false]
      exact zSim_e (zsim_err h (k := 1) (by omega) (by omega) rfl (by decide))
  · simp only [ha, if_true, if_false]
    exact zSim_e (zsim_err h (k := 1) (by omega) (by omega) rfl (by decide))
