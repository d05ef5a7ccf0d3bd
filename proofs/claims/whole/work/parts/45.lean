/-! texts: single parts, and a text as a whole -/
theorem zgd_put {u n o p : Nat} {b : Nat → Nat} {l : List (Nat × Nat)} {V U V' U' : zI} (h : zgd u n o b p l V U) (hp : p < n) (x : Nat × Nat) (v2 : V' 180 2 = nI (l.length + 1)) (v3 : V' 180 3 = nI (p + 1)) (v1 : V' 181 l.length = nI x.1) (v4 : V' 182 l.length = nI x.2) (hV : ∀ c j, ¬ (c = 180 ∧ (j = 2 ∨ j = 3)) → ¬ ((c = 181 ∨ c = 182) ∧ j = l.length) → V' c j = V c j) (u11 : U' 0 11 = nI (l.length + 1)) (u6 : U' 0 6 = nI (p + 1)) (c6 : U' 6 l.length = nI (zop x)) (u9 : U' 0 9 = 0) (hU : ∀ c j, ¬ (c = 0 ∧ (j = 6 ∨ j = 9 ∨ j = 11)) → ¬ (c = 6 ∧ j = l.length) → U' c j = U c j) : zgd u n o b (p + 1) (x :: l) V' U' := by
  obtain ⟨⟨a1, a2, a3, a4, a5, a6⟩, ⟨b1, b2, b3, b4, b5, b6⟩, ⟨d1, d2, d3, d4, d5, d6, d7, d8⟩⟩ := h
  refine ⟨⟨a1, by omega, by rw [List.length_cons]; omega, a4, a5, a6⟩, ⟨by rw [List.length_cons]; exact v2, v3, by rw [hV _ _ (by omega) (by omega)]; exact b3, by rw [hV _ _ (by omega) (by omega)]; exact b4, fun k hk => by rw [hV _ _ (by omega) (by omega)]; exact b5 k hk, fun k hk => ?_⟩, ⟨by rw [List.length_cons]; exact u11, u6, by rw [hU _ _ (by omega) (by omega)]; exact d3, by rw [hU _ _ (by omega) (by omega)]; exact d4, by rw [hU _ _ (by omega) (by omega)]; exact d5, u9, fun k hk => by rw [hU _ _ (by omega) (by omega)]; exact d7 k hk, fun k hk => ?_⟩⟩
  · rw [List.length_cons] at hk
    by_cases e : k = l.length
    · subst e
      rw [zrev_last]
      exact ⟨v1, v4⟩
    · rw [zrev_getD (by omega), hV _ _ (by omega) (by omega), hV _ _ (by omega) (by omega)]
      exact b6 k (by omega)
  · rw [List.length_cons] at hk
    by_cases e : k = l.length
    · subst e
      rw [zrev_last]
      exact c6
    · rw [zrev_getD (by omega), hU _ _ (by omega) (by omega)]
      exact d8 k (by omega)
theorem zgd_o {u n o o' p : Nat} {b : Nat → Nat} {l : List (Nat × Nat)} {V U U' : zI} (h : zgd u n o b p l V U) (ho : o' ≤ 5) (h7 : U' 0 7 = nI o') (h9 : U' 0 9 = 0) (hU : ∀ c j, ¬ (c = 0 ∧ (j = 7 ∨ j = 9)) → U' c j = U c j) : zgd u n o' b p l V U' := by
  obtain ⟨⟨a1, a2, a3, a4, a5, a6⟩, hb, ⟨d1, d2, d3, d4, d5, d6, d7, d8⟩⟩ := h
  exact ⟨⟨a1, a2, a3, a4, ho, a6⟩, hb, ⟨by rw [hU _ _ (by omega)]; exact d1, by rw [hU _ _ (by omega)]; exact d2, by rw [hU _ _ (by omega)]; exact d3, by rw [hU _ _ (by omega)]; exact d4, h7, h9, fun k hk => by rw [hU _ _ (by omega)]; exact d7 k hk, fun k hk => by rw [hU _ _ (by omega)]; exact d8 k hk⟩⟩
theorem zdep_not {nn d : Nat} {l : List (Nat × Nat)} (h : zdep nn l = some (d + 1)) : zdep nn ((33, 0) :: l) = some (d + 1) := by
  rw [zdep, h]
  simp
theorem zdep_num {nn d v : Nat} {l : List (Nat × Nat)} (hv : v ≤ 9999) (h : zdep nn l = some d) : zdep nn ((0, v) :: l) = some (d + 1) := by
  rw [zdep, h]
  simp [hv]
theorem zdep_nam {nn d v : Nat} {l : List (Nat × Nat)} (hv : v < nn) (h : zdep nn l = some d) : zdep nn ((1, v) :: l) = some (d + 1) := by
  rw [zdep, h]
  simp [hv]
/-- a place where reading ends, by no part -/
theorem zrs_bad {u n o p : Nat} {b : Nat → Nat} {l : List (Nat × Nat)} {V U U' : zI} {cr : Option (Int32 × zI)} {mr : Option zI} (h : zgd u n o b p l V U) (hc : cr = some (0, V)) (hm : mr = some U') (h9 : U' 0 9 = 1) (hU : ∀ c j, ¬ (c = 0 ∧ j = 9) → U' c j = U c j) : zrs u n o b p l V U cr mr := by
  obtain ⟨⟨a1, a2, a3, a4, a5, a6⟩, ⟨b1, b2, b3, b4, b5, b6⟩, ⟨d1, d2, d3, d4, d5, d6, d7, d8⟩⟩ := h
  exact ⟨V, U', hm, fun _ _ _ _ _ => rfl, fun c j h1 h2 => hU c j (by omega), Or.inr ⟨hc, p, by omega, b2, by rw [hU _ _ (by omega)]; exact d2, h9, by rw [hU _ _ (by omega)]; exact d5⟩⟩
theorem zsingle {u n o : Nat} {b : Nat → Nat} {rcC : zI → Int32 → Option (Int32 × zI)} {rcM : zI → Option zI} (hrec : o < 5 → ∀ p l V U, zgd u n (o + 1) b p l V U → zrs u n (o + 1) b p l V U (rcC V (nI (o + 1))) (rcM U)) {p : Nat} {l : List (Nat × Nat)} {V U : zI} (h : zgd u n o b p l V U) : zrs u n o b p l V U (fc_Reader_readSingleB rcC V (nI o)) (fm_oneB rcM U) := by
  obtain ⟨⟨a1, a2, a3, a4, a5, a6⟩, ⟨b1, b2, b3, b4, b5, b6⟩, ⟨d1, d2, d3, d4, d5, d6, d7, d8⟩⟩ := id h
  have hx := zpn_256 h
  have h1 := c_next h
  have h2 := m_here h
  unfold fc_Reader_readSingleB fm_oneB
  rw [h1, h2, Option.bind_some, Option.bind_some, c_dig V hx, m_dig U hx, Option.bind_some, Option.bind_some]
  -- no part, and no end of a part
  have hname : zkn u (zpn b n p) = none → zrs u n o b p l V U ((fc_Reader_readName V (zov (zpn b n p))).bind fun r21 => z_guard (zbb r21.1) <| some (r21.1, r21.2)) (fm_one_J200 rcM U (-1)) := fun hk => by
    have hr := c_name a4 b4 hx
    rw [hk] at hr
    refine zrs_bad (U' := zup U 0 9 1) h (by rw [hr]; rfl) ?_ zup_y (fun c j hc => zup_o (by omega))
    unfold fm_one_J200
    rw [d6, if_pos rfl, if_neg (by decide)]
  cases ex : zpn b n p with
  | none =>
    rw [ex] at hname
    have hn := hname (by rfl)
    rw [if_pos (show (if zdig none = true then (1 : Int32) else 0) = 0 by decide), if_neg (show ¬ zov none = (33 : Int32) by decide), if_neg (show ¬ zov none = (40 : Int32) by decide), if_neg (show ¬ zov none = (33 : Int32) by decide), if_neg (show ¬ zov none = (40 : Int32) by decide), if_pos (show (if zdig none = true then (1 : Int32) else 0) = 0 by decide), if_neg (show ¬ (0 : Int32) ≤ zov none by decide)]
    exact hn
  | some c =>
    obtain ⟨hp, hbc⟩ := zpn_s ex
    have hc := hx c ex
    rw [ex] at h1 h2
    cases ed : zdig (some c) with
    | true =>
      have hd : 48 ≤ c ∧ c ≤ 57 := by
        have e : (decide (48 ≤ c) && decide (c ≤ 57)) = true := ed
        rw [Bool.and_eq_true, decide_eq_true_eq, decide_eq_true_eq] at e
        exact e
      have f1 : (if true = true then (1 : Int32) else 0) = 1 := if_pos rfl
      rw [f1, if_neg z10, if_neg (show ¬ zov (some c) = (33 : Int32) from nI_nec (c := 33) hc (by omega) (by omega)), if_neg (show ¬ zov (some c) = (40 : Int32) from nI_nec (c := 40) hc (by omega) (by omega)), if_neg z10]
      obtain ⟨V', U', p', v', r1, r2, r3, r4, r5, r6, r7⟩ := znum_L (u := u) (n := n) (o := o) (b := b) rcM 3 1 (p + 1) (c - 48) 99 99 l _ _ (by omega) (by omega) (by omega) (zgd_adv h hp) (by omega) (by omega)
      have hcn : fc_Reader_readNumber V = some (1, V') := by
        unfold fc_Reader_readNumber
        rw [fc_Reader_readNumber_L4, if_neg (show ¬ (4 : Int32) ≤ 0 by decide), h1, Option.bind_some, c_dig V (x := some c) (fun y hy => by cases hy; exact hc), ed, Option.bind_some, if_neg (show ¬ (if true = true then (1 : Int32) else 0) = 0 by rw [if_pos rfl]; decide), Option.bind_some, show ((0 : Int32) * (10 : Int32) + zov (some c)) - (48 : Int32) = nI (c - 48) by
          rw [show zov (some c) = nI c from rfl, show (0 : Int32) * (10 : Int32) = nI 0 from by decide, zl_add, show (48 : Int32) = nI 48 from rfl, zl_sub _ _ (by omega), Nat.zero_add]]
        exact r1
      have hmn : fm_one_L131 rcM 100 (0 : Int32) (0 : Int32) U = some U' := by
        rw [fm_one_L131, if_neg (show ¬ (4 : Int32) ≤ 0 by decide), h2, Option.bind_some, m_dig U (x := some c) (fun y hy => by cases hy; exact hc), ed, Option.bind_some, if_neg (show ¬ (if true = true then (1 : Int32) else 0) = 0 by rw [if_pos rfl]; decide), Option.bind_some, show ((10 : Int32) * (0 : Int32) + zov (some c)) - (48 : Int32) = nI (c - 48) by
          rw [show zov (some c) = nI c from rfl, show (10 : Int32) * (0 : Int32) = nI 0 from by decide, zl_add, show (48 : Int32) = nI 48 from rfl, zl_sub _ _ (by omega), Nat.zero_add]]
        exact r2
      rw [hcn, hmn]
      exact ⟨V', U', rfl, zfr_t (zfr_adv V _) r6, mfr_t (mfr_adv U _) r7, Or.inl ⟨rfl, p', [(0, v')], by omega, by simp; omega, r4, fun d hd => zdep_num r5 hd⟩⟩
    | false =>
      have f0 : (if false = true then (1 : Int32) else 0) = 0 := if_neg (by decide)
      rw [f0, if_pos rfl]
      by_cases hb2 : c = 33 ∨ c = 40
      · -- a sign in front, or a bracket
        have hJ : zrs u n o b p l V U (fc_Reader_readSingle_J35 rcC V (nI o) (zov (some c))) (fm_one_J17 rcM U (zov (some c))) := by
          unfold fc_Reader_readSingle_J35 fm_one_J17
          rw [d5]
          by_cases ho : o < 5
          · rw [if_pos (show nI o < (5 : Int32) from nI_lt (b := 5) ho (by omega)), if_neg (show ¬ nI o = (5 : Int32) from nI_nec (c := 5) (by omega) (by omega) (by omega))]
            unfold fm_one_J31
            rw [show zbb (0 : Int32) = true by decide, d5, d2, nI_1, nI_1]
            simp only [z_guard, if_true]
            have hg : zgd u n (o + 1) b (p + 1) l (zup V 180 3 (V 180 3 + 1)) (zup (zup (zup U 0 9 0) 0 7 (nI (o + 1))) 0 6 (nI (p + 1))) := by
              have g := zgd_adv h hp
              rw [d2, nI_1] at g
              refine zgd_o g (by omega) (by rw [zup_o (by omega), zup_y]) (by rw [zup_o (by omega), zup_o (by omega), zup_y]) (fun c j hcj => ?_)
              by_cases e : c = 0 ∧ j = 6
              · obtain ⟨rfl, rfl⟩ := e
                rw [zup_y, zup_y]
              · rw [zup_o (by omega), zup_o (by omega), zup_o (by omega), zup_o (by omega)]
            have hf1 := zfr_adv V (V 180 3 + 1)
            have hf2 : mfr U (zup (zup (zup U 0 9 0) 0 7 (nI (o + 1))) 0 6 (nI (p + 1))) := fun c j k1 k2 => by rw [zup_o (by omega), zup_o (by omega), zup_o (by omega)]
            by_cases c33 : c = 33
            · subst c33
              rw [if_pos (show zov (some 33) = (33 : Int32) from rfl), if_pos (show zov (some 33) = (33 : Int32) from rfl)]
              obtain ⟨V1, U1, q1, q2, q3, q4⟩ := hrec ho (p + 1) l _ _ hg
              rw [q1, Option.bind_some]
              rcases q4 with ⟨k1, p', q, k2, k3, k4, k5⟩ | ⟨k1, k2⟩
              · obtain ⟨V2, U2, w1, w2, w3, w4, w5⟩ := zgd_write k4 (by rw [List.length_append]; omega) (33, 0)
                have w1 : fc_Reader_write V1 (33 : Int32) (0 : Int32) = some V2 := w1
                have w2 : fm_codes U1 (20010 : Int32) = some U2 := w2
                rw [k1, Option.bind_some, if_neg z10]
                show zrs u n o b p l V U ((fc_Reader_write V1 (33 : Int32) (0 : Int32)).bind fun r18 => some ((1 : Int32), r18)) _
                rw [w1, w2, Option.bind_some, Option.bind_some]
                have u7 : U2 0 7 = nI (o + 1) := w3.2.2.2.2.2.2.1
                have u9 : U2 0 9 = 0 := w3.2.2.2.2.2.2.2.1
                refine ⟨V2, _, rfl, zfr_t (zfr_t hf1 q2) w4, fun c j j1 j2 => by rw [zup_o (by omega), mfr_t (mfr_t hf2 q3) w5 c j j1 j2], Or.inl ⟨rfl, p', (33, 0) :: q, by omega, by rw [List.length_cons]; omega, zgd_o w3 (by omega) (by rw [zup_y, u7, show (1 : Int32) = nI 1 from rfl, zl_sub _ _ (by omega)]; rfl) (by rw [zup_o (by omega)]; exact u9) (fun c j hcj => zup_o (by omega)), fun d hd => zdep_not (k5 d hd)⟩⟩
              · obtain ⟨p', z1, z2, z3, z4, z5⟩ := k2
                rw [k1, Option.bind_some, if_pos rfl, m_codes_w z4, Option.bind_some]
                refine ⟨V1, _, rfl, zfr_t hf1 q2, fun c j j1 j2 => by rw [zup_o (by omega), mfr_t hf2 q3 c j j1 j2], Or.inr ⟨rfl, p', z1, z2, by rw [zup_o (by omega)]; exact z3, by rw [zup_o (by omega)]; exact z4, by rw [zup_y, z5, show (1 : Int32) = nI 1 from rfl, zl_sub _ _ (by omega)]; rfl⟩⟩
            · have c40 : c = 40 := by omega
              subst c40
              rw [if_neg (show ¬ zov (some 40) = (33 : Int32) by decide), if_neg (show ¬ zov (some 40) = (33 : Int32) by decide)]
              obtain ⟨V1, U1, q1, q2, q3, q4⟩ := zeither (hrec ho) hg
              rw [q1, Option.bind_some]
              rcases q4 with ⟨k1, p', q, k2, k3, k4, k5⟩ | ⟨k1, k2⟩
              · have u7 : U1 0 7 = nI (o + 1) := k4.2.2.2.2.2.2.1
                have hn1 := c_next k4
                have hn2 := m_here k4
                rw [k1, Option.bind_some, if_neg z10]
                show zrs u n o b p l V U ((fc_Reader_next V1).bind fun r12 => if r12 = (41 : Int32) then some ((1 : Int32), (zup V1 180 3 ((V1 180 3) + (1 : Int32)))) else some ((0 : Int32), V1)) _
                rw [hn1, Option.bind_some]
                by_cases h41 : zpn b n p' = some 41
                · rw [h41] at hn2 ⊢
                  obtain ⟨hp', _⟩ := zpn_s h41
                  rw [if_pos (show zov (some 41) = (41 : Int32) from rfl), m_takes_y (c := 41) hn2, Option.bind_some, if_neg z10]
                  have g := zgd_adv k4 hp'
                  refine ⟨_, _, rfl, zfr_t (zfr_t hf1 q2) (zfr_adv V1 _), fun c j j1 j2 => ?_, Or.inl ⟨rfl, p' + 1, q, by omega, by omega, zgd_o g (by omega) ?_ ?_ (fun c j hcj => ?_), k5⟩⟩
                  · rw [zup_o (by omega), zup_o (by omega)]
                    show zup U1 0 6 _ c j = _
                    rw [zup_o (by omega), mfr_t hf2 q3 c j j1 j2]
                  · rw [zup_y]
                    show zup U1 0 6 (U1 0 6 + 1) 0 7 - 1 = _
                    rw [zup_o (by omega), u7, show (1 : Int32) = nI 1 from rfl, zl_sub _ _ (by omega)]; rfl
                  · rw [zup_o (by omega), zup_y]
                  · rw [zup_o (by omega), zup_o (by omega)]
                · have hne : ¬ zov (zpn b n p') = (41 : Int32) := zov_ne (c := 41) (by omega) (fun s hs => ⟨zpn_256 k4 s hs, fun e => h41 (by rw [hs, e])⟩)
                  rw [if_neg hne, m_takes_n hn2 hne, Option.bind_some, if_pos rfl]
                  refine ⟨V1, _, rfl, zfr_t hf1 q2, fun c j j1 j2 => ?_, Or.inr ⟨rfl, p', ?_, k4.2.1.2.1, ?_, ?_, ?_⟩⟩
                  · rw [zup_o (by omega), zup_o (by omega)]
                    exact mfr_t hf2 q3 c j j1 j2
                  · have := k4.1.1; have := k4.1.2.1; omega
                  · rw [zup_o (by omega), zup_o (by omega)]
                    exact k4.2.2.2.1
                  · rw [zup_o (by omega), zup_y]
                  · rw [zup_y]
                    show U1 0 7 - 1 = _
                    rw [u7, show (1 : Int32) = nI 1 from rfl, zl_sub _ _ (by omega)]; rfl
              · obtain ⟨p', z1, z2, z3, z4, z5⟩ := k2
                rw [k1, Option.bind_some, if_pos rfl, m_takes_n (m_here_w z4) (by decide), Option.bind_some, if_pos rfl]
                refine ⟨V1, _, rfl, zfr_t hf1 q2, fun c j j1 j2 => ?_, Or.inr ⟨rfl, p', z1, z2, ?_, ?_, ?_⟩⟩
                · rw [zup_o (by omega), zup_o (by omega)]
                  exact mfr_t hf2 q3 c j j1 j2
                · rw [zup_o (by omega), zup_o (by omega)]
                  exact z3
                · rw [zup_o (by omega), zup_y]
                · rw [zup_y]
                  show U1 0 7 - 1 = _
                  rw [z5, show (1 : Int32) = nI 1 from rfl, zl_sub _ _ (by omega)]; rfl
          · have ho5 : o = 5 := by omega
            subst ho5
            rw [if_neg (show ¬ nI 5 < (5 : Int32) by decide), if_pos (show nI 5 = (5 : Int32) from rfl)]
            refine zrs_bad (U' := zup U 0 9 1) h rfl ?_ zup_y (fun c j hc => zup_o (by omega))
            unfold fm_one_J31
            rw [show zbb (1 : Int32) = true by decide]
            simp only [z_guard, if_true, z10, if_false]
        rcases hb2 with rfl | rfl
        · rw [if_pos (show zov (some 33) = (33 : Int32) from rfl), if_pos (show zov (some 33) = (33 : Int32) from rfl)]
          exact hJ
        · rw [if_neg (show ¬ zov (some 40) = (33 : Int32) by decide), if_pos (show zov (some 40) = (40 : Int32) from rfl), if_neg (show ¬ zov (some 40) = (33 : Int32) by decide), if_pos (show zov (some 40) = (40 : Int32) from rfl)]
          exact hJ
      · rw [if_neg (show ¬ zov (some c) = (33 : Int32) from nI_nec (c := 33) hc (by omega) (by omega)), if_neg (show ¬ zov (some c) = (40 : Int32) from nI_nec (c := 40) hc (by omega) (by omega)), if_neg (show ¬ zov (some c) = (33 : Int32) from nI_nec (c := 33) hc (by omega) (by omega)), if_neg (show ¬ zov (some c) = (40 : Int32) from nI_nec (c := 40) hc (by omega) (by omega)), if_pos rfl, if_pos (show (0 : Int32) ≤ zov (some c) from nI_pos' (by omega))]
        show zrs u n o b p l V U _ ((fm_nameOf U (nI c)).bind fun r22 => fm_one_J200 rcM U r22)
        rw [m_name a4 d4 hc, Option.bind_some]
        have hr := c_name (V := V) a4 b4 (x := some c) (fun y hy => by cases hy; exact hc)
        cases ek : zkn u (some c) with
        | none =>
          rw [ex] at hname
          exact hname ek
        | some k =>
          have hk := zkn_lt ek
          have hk4 : k < 4 := by unfold znn at hk; split at hk <;> omega
          have hr2 : fc_Reader_readName V (zov (some c)) = zwr V k := by rw [hr, ek]
          rw [hr2]
          unfold zwr fc_Reader_write fm_one_J200 fm_codes
          rw [zup_o (by omega), b1, if_pos (show nI l.length < (60 : Int32) from nI_lt (b := 60) (by omega) (by omega)), zl_b (by omega), show decide (l.length < 60) = true from decide_eq_true (by omega), zl_cl _ (by omega), nI_1, d6, if_pos rfl, if_pos (show (0 : Int32) ≤ zov (some k) from nI_pos' (by omega)), zup_y, if_pos rfl, zup_o (by omega), d1, zl_b (by omega), show decide (l.length < 60) = true from decide_eq_true (by omega), zl_cl _ (by omega), nI_1]
          simp only [z_guard, if_true, Option.bind_some]
          rw [show zbb (1 : Int32) = true by decide]
          simp only [if_true]
          refine ⟨_, _, rfl, fun c j j1 j2 j3 => ?_, fun c j j1 j2 => ?_, Or.inl ⟨rfl, p + 1, [(1, k)], by omega, by simp, zgd_put h hp (1, k) ?_ ?_ ?_ ?_ (fun c j j1 j2 => ?_) ?_ ?_ ?_ ?_ (fun c j j1 j2 => ?_), fun d hd => zdep_nam hk hd⟩⟩
          · rw [zup_o (by omega), zup_o (by omega), zup_o (by omega), zup_o (by omega)]
          · rw [zup_o (by omega), zup_o (by omega), zup_o (by omega), zup_o (by omega)]
          · rw [zup_y]
          · rw [zup_o (by omega), zup_o (by omega), zup_o (by omega), zup_y, b2, nI_1]
          · rw [zup_o (by omega), zup_o (by omega), zup_y]; rfl
          · rw [zup_o (by omega), zup_y]
          · rw [zup_o (by omega), zup_o (by omega), zup_o (by omega), zup_o (by omega)]
          · rw [zup_o (by omega), zup_y]
          · rw [zup_y, zup_o (by omega), zup_o (by omega), zup_o (by omega), d2, nI_1]
          · rw [zup_o (by omega), zup_o (by omega), zup_y]
            show (10000 : Int32) + nI k = _
            exact zl_add 10000 k
          · rw [zup_o (by omega), zup_o (by omega), zup_o (by omega), zup_y]
          · rw [zup_o (by omega), zup_o (by omega), zup_o (by omega), zup_o (by omega)]
theorem zsingles {u n : Nat} {b : Nat → Nat} : ∀ (j o F p : Nat) (l : List (Nat × Nat)) (V U : zI), o + j = 5 → j < F → zgd u n o b p l V U → zrs u n o b p l V U (fc_Reader_readSingle F V (nI o)) (fm_one F U)
  | j, o, 0, p, l, V, U, ho, hF, h => by omega
  | 0, o, F + 1, p, l, V, U, ho, hF, h => zsingle (rcC := fc_Reader_readSingle F) (rcM := fm_one F) (fun h5 => by omega) h
  | j + 1, o, F + 1, p, l, V, U, ho, hF, h => zsingle (rcC := fc_Reader_readSingle F) (rcM := fm_one F) (fun _ p l V U h => zsingles j (o + 1) F p l V U (by omega) (by omega) h) h
