/-! texts: the levels -/
theorem nI_nec {s c : Nat} (hs : s < 256) (hc : c < 256) (h : s ≠ c) : ¬ nI s = nI c := fun e => h ((nI_eq (by omega) (by omega)).mp e)
theorem zov_no {x : Option Nat} {S : Nat → Bool} {c : Nat} (hc : c < 256) (hS : S c = true) (hx : ∀ s, x = some s → s < 256 ∧ S s = false) : ¬ zov x = nI c := zov_ne hc (fun s e => by
  obtain ⟨h1, h2⟩ := hx s e
  refine ⟨h1, fun e2 => ?_⟩
  rw [e2, hS] at h2
  cases h2)
def zS3 (s : Nat) : Bool := s == 42 || s == 47 || s == 37
def zE3 (rc : zI → Option zI) (F : Nat) (U : zI) : Option zI :=
  (fm_takes U (42 : Int32)).bind fun r17 =>
  if r17.1 = 0 then
    (fm_takes r17.2 (47 : Int32)).bind fun r20 =>
    if r20.1 = 0 then
      (fm_takes r20.2 (37 : Int32)).bind fun r23 =>
      if r23.1 = 0 then
        fm_product_L51 rc F (0 : Int32) r23.2
      else
        fm_product_L51 rc F (20009 : Int32) r23.2
    else
      fm_product_L51 rc F (20008 : Int32) r20.2
  else
    fm_product_L51 rc F (20007 : Int32) r17.2
theorem zS3_c {s : Nat} (h : zS3 s = true) : s = 42 ∨ s = 47 ∨ s = 37 := by
  unfold zS3 at h
  simp only [Bool.or_eq_true, beq_iff_eq] at h
  omega
theorem m_51 (rc : zI → Option zI) (F : Nat) (v : Int32) (U : zI) (hv : ¬ v ≤ 0) : fm_product_L51 rc (F + 1) v U = (rc U).bind fun r13 => (fm_codes r13 v).bind fun r15 => zE3 rc F r15 := by
  rw [fm_product_L51, if_neg hv]
  rfl
theorem zproduct {u n o : Nat} {b : Nat → Nat} {rcC : zI → Int32 → Option (Int32 × zI)} {rcM : zI → Option zI} (hsub : ∀ p l V U, zgd u n o b p l V U → zrs u n o b p l V U (rcC V (nI o)) (rcM U)) {p : Nat} {l : List (Nat × Nat)} {V U : zI} (h : zgd u n o b p l V U) : zrs u n o b p l V U (fc_Reader_readProduct rcC V (nI o)) (fm_product rcM U) := by
  have := zlevel (S := zS3) (CL := fun f i V => fc_Reader_readProduct_L12 rcC f (nI o) i V) (ML := fun F U => zE3 rcM F U) (sC := fun V => rcC V (nI o)) (sM := rcM) (fun s hs => by rcases zS3_c hs with rfl | rfl | rfl <;> decide) (fun f i V s hi hn hs => by
    show fc_Reader_readProduct_L12 rcC (f + 1) (nI o) (nI i) V = _
    rw [fc_Reader_readProduct_L12, if_neg (show ¬ (60 : Int32) ≤ nI i from nI_ge (b := 60) hi (by omega)), hn, Option.bind_some, nI_1]
    rcases zS3_c hs with rfl | rfl | rfl
    · rw [if_pos (show nI 42 = (42 : Int32) from rfl)]
    · rw [if_neg (show ¬ nI 47 = (42 : Int32) by decide), if_pos (show nI 47 = (47 : Int32) from rfl)]
    · rw [if_neg (show ¬ nI 37 = (42 : Int32) by decide), if_neg (show ¬ nI 37 = (47 : Int32) by decide), if_pos (show nI 37 = (37 : Int32) from rfl)]) (fun f i V x hi hn hx => by
    show fc_Reader_readProduct_L12 rcC (f + 1) (nI o) (nI i) V = _
    rw [fc_Reader_readProduct_L12, if_neg (show ¬ (60 : Int32) ≤ nI i from nI_ge (b := 60) hi (by omega)), hn, Option.bind_some, if_neg (show ¬ zov x = (42 : Int32) from zov_no (c := 42) (by omega) rfl hx), if_neg (show ¬ zov x = (47 : Int32) from zov_no (c := 47) (by omega) rfl hx), if_neg (show ¬ zov x = (37 : Int32) from zov_no (c := 37) (by omega) rfl hx)]) (fun F U s hh hs => by
    show zE3 rcM (F + 1) U = _
    unfold zE3
    rcases zS3_c hs with rfl | rfl | rfl
    · rw [m_takes_y (c := 42) hh, Option.bind_some, if_neg z10, m_51 rcM F _ _ (by decide)]
      rfl
    · rw [m_takes_n (x := some 47) (c := 42) hh (by decide), Option.bind_some, if_pos rfl, m_takes_y (c := 47) hh, Option.bind_some, if_neg z10, m_51 rcM F _ _ (by decide)]
      rfl
    · rw [m_takes_n (x := some 37) (c := 42) hh (by decide), Option.bind_some, if_pos rfl, m_takes_n (x := some 37) (c := 47) hh (by decide), Option.bind_some, if_pos rfl, m_takes_y (c := 37) hh, Option.bind_some, if_neg z10, m_51 rcM F _ _ (by decide)]
      rfl) (fun F U x hh hx => by
    show zE3 rcM (F + 1) U = _
    unfold zE3
    rw [m_takes_n (c := 42) hh (zov_no (c := 42) (by omega) rfl hx), Option.bind_some, if_pos rfl, m_takes_n (c := 47) hh (zov_no (c := 47) (by omega) rfl hx), Option.bind_some, if_pos rfl, m_takes_n (c := 37) hh (zov_no (c := 37) (by omega) rfl hx), Option.bind_some, if_pos rfl, fm_product_L51, if_pos (show (0 : Int32) ≤ 0 by decide)]) hsub h
  exact this
def zS2 (s : Nat) : Bool := s == 43 || s == 45
theorem zS2_c {s : Nat} (h : zS2 s = true) : s = 43 ∨ s = 45 := by
  unfold zS2 at h
  simp only [Bool.or_eq_true, beq_iff_eq] at h
  omega
def zE2 (rc : zI → Option zI) (F : Nat) (U : zI) : Option zI :=
  (fm_takes U (43 : Int32)).bind fun r14 =>
  if r14.1 = 0 then
    (fm_takes r14.2 (45 : Int32)).bind fun r17 =>
    if r17.1 = 0 then
      fm_sum_L36 rc F (0 : Int32) r17.2
    else
      fm_sum_L36 rc F (20006 : Int32) r17.2
  else
    fm_sum_L36 rc F (20005 : Int32) r14.2
theorem m_36 (rc : zI → Option zI) (F : Nat) (v : Int32) (U : zI) (hv : ¬ v ≤ 0) : fm_sum_L36 rc (F + 1) v U = (fm_product rc U).bind fun r10 => (fm_codes r10 v).bind fun r12 => zE2 rc F r12 := by
  rw [fm_sum_L36, if_neg hv]
  rfl
theorem zsums {u n o : Nat} {b : Nat → Nat} {rcC : zI → Int32 → Option (Int32 × zI)} {rcM : zI → Option zI} (hsub : ∀ p l V U, zgd u n o b p l V U → zrs u n o b p l V U (rcC V (nI o)) (rcM U)) {p : Nat} {l : List (Nat × Nat)} {V U : zI} (h : zgd u n o b p l V U) : zrs u n o b p l V U (fc_Reader_readSum rcC V (nI o)) (fm_sum rcM U) := by
  have := zlevel (S := zS2) (CL := fun f i V => fc_Reader_readSum_L12 rcC f (nI o) i V) (ML := fun F U => zE2 rcM F U) (sC := fun V => fc_Reader_readProduct rcC V (nI o)) (sM := fun U => fm_product rcM U) (fun s hs => by rcases zS2_c hs with rfl | rfl <;> decide) (fun f i V s hi hn hs => by
    show fc_Reader_readSum_L12 rcC (f + 1) (nI o) (nI i) V = _
    rw [fc_Reader_readSum_L12, if_neg (show ¬ (60 : Int32) ≤ nI i from nI_ge (b := 60) hi (by omega)), hn, Option.bind_some, nI_1]
    rcases zS2_c hs with rfl | rfl
    · rw [if_pos (show nI 43 = (43 : Int32) from rfl)]
    · rw [if_neg (show ¬ nI 45 = (43 : Int32) by decide), if_pos (show nI 45 = (45 : Int32) from rfl)]) (fun f i V x hi hn hx => by
    show fc_Reader_readSum_L12 rcC (f + 1) (nI o) (nI i) V = _
    rw [fc_Reader_readSum_L12, if_neg (show ¬ (60 : Int32) ≤ nI i from nI_ge (b := 60) hi (by omega)), hn, Option.bind_some, if_neg (show ¬ zov x = (43 : Int32) from zov_no (c := 43) (by omega) rfl hx), if_neg (show ¬ zov x = (45 : Int32) from zov_no (c := 45) (by omega) rfl hx)]) (fun F U s hh hs => by
    show zE2 rcM (F + 1) U = _
    unfold zE2
    rcases zS2_c hs with rfl | rfl
    · rw [m_takes_y (c := 43) hh, Option.bind_some, if_neg z10, m_36 rcM F _ _ (by decide)]
      rfl
    · rw [m_takes_n (x := some 45) (c := 43) hh (by decide), Option.bind_some, if_pos rfl, m_takes_y (c := 45) hh, Option.bind_some, if_neg z10, m_36 rcM F _ _ (by decide)]
      rfl) (fun F U x hh hx => by
    show zE2 rcM (F + 1) U = _
    unfold zE2
    rw [m_takes_n (c := 43) hh (zov_no (c := 43) (by omega) rfl hx), Option.bind_some, if_pos rfl, m_takes_n (c := 45) hh (zov_no (c := 45) (by omega) rfl hx), Option.bind_some, if_pos rfl, fm_sum_L36, if_pos (show (0 : Int32) ≤ 0 by decide)]) (fun p l V U h => zproduct hsub h) h
  exact this
def zS1 (s : Nat) : Bool := s == 60 || s == 61 || s == 62
theorem zS1_c {s : Nat} (h : zS1 s = true) : s = 60 ∨ s = 61 ∨ s = 62 := by
  unfold zS1 at h
  simp only [Bool.or_eq_true, beq_iff_eq] at h
  omega
/-- what follows the first sum of a comparison -/
def zC1 (rc : zI → Int32 → Option (Int32 × zI)) (o : Int32) (V : zI) : Option (Int32 × zI) :=
  (fc_Reader_next V).bind fun r4 =>
  if r4 = (60 : Int32) then
    (fc_Reader_readSum rc (zup V 180 3 ((V 180 3) + (1 : Int32))) o).bind fun r7 =>
    if r7.1 = 0 then
      some ((0 : Int32), r7.2)
    else
      (fc_Reader_write r7.2 r4 (0 : Int32)).bind fun r10 =>
      some ((1 : Int32), r10)
  else
    if r4 = (61 : Int32) then
      (fc_Reader_readSum rc (zup V 180 3 ((V 180 3) + (1 : Int32))) o).bind fun r13 =>
      if r13.1 = 0 then
        some ((0 : Int32), r13.2)
      else
        (fc_Reader_write r13.2 r4 (0 : Int32)).bind fun r16 =>
        some ((1 : Int32), r16)
    else
      if r4 = (62 : Int32) then
        (fc_Reader_readSum rc (zup V 180 3 ((V 180 3) + (1 : Int32))) o).bind fun r19 =>
        if r19.1 = 0 then
          some ((0 : Int32), r19.2)
        else
          (fc_Reader_write r19.2 r4 (0 : Int32)).bind fun r22 =>
          some ((1 : Int32), r22)
      else
        some ((1 : Int32), V)
def zE1 (rc : zI → Option zI) (U : zI) : Option zI :=
  (fm_takes U (60 : Int32)).bind fun r3 =>
  if r3.1 = 0 then
    (fm_takes r3.2 (61 : Int32)).bind fun r6 =>
    if r6.1 = 0 then
      (fm_takes r6.2 (62 : Int32)).bind fun r9 =>
      if r9.1 = 0 then
        some r9.2
      else
        (fm_sum rc r9.2).bind fun r14 =>
        (fm_codes r14 (20004 : Int32)).bind fun r16 =>
        some r16
    else
      (fm_sum rc r6.2).bind fun r19 =>
      (fm_codes r19 (20003 : Int32)).bind fun r21 =>
      some r21
  else
    (fm_sum rc r3.2).bind fun r24 =>
    (fm_codes r24 (20002 : Int32)).bind fun r26 =>
    some r26
theorem zcompared {u n o : Nat} {b : Nat → Nat} {rcC : zI → Int32 → Option (Int32 × zI)} {rcM : zI → Option zI} (hsub : ∀ p l V U, zgd u n o b p l V U → zrs u n o b p l V U (rcC V (nI o)) (rcM U)) {p : Nat} {l : List (Nat × Nat)} {V U : zI} (h : zgd u n o b p l V U) : zrs u n o b p l V U (fc_Reader_readCompared rcC V (nI o)) (fm_compared rcM U) := by
  have key : zrs u n o b p l V U ((fc_Reader_readSum rcC V (nI o)).bind fun r => if r.1 = 0 then some (0, r.2) else zC1 rcC (nI o) r.2) ((fm_sum rcM U).bind fun r => zE1 rcM r) := by
    obtain ⟨V1, U1, q1, q2, q3, q4⟩ := zsums hsub h
    rw [q1, Option.bind_some]
    rcases q4 with ⟨k1, p', q, k2, k3, k4, k5⟩ | ⟨k1, k2⟩
    · rw [k1, Option.bind_some, if_neg z10]
      have hn := k4.1.1
      have hpn := k4.1.2.1
      have hlp := k4.1.2.2.1
      have hb := k4.1.2.2.2.2.2
      have h1 := c_next k4
      have h2 := m_here k4
      have hstop : (∀ s, zpn b n p' = some s → s < 256 ∧ zS1 s = false) → zrs u n o b p l V U (zC1 rcC (nI o) V1) (zE1 rcM U1) := fun hx => by
        refine ⟨V1, U1, ?_, q2, q3, Or.inl ⟨?_, p', q, k2, k3, k4, k5⟩⟩
        · unfold zE1
          rw [m_takes_n (c := 60) h2 (zov_no (c := 60) (by omega) rfl hx), Option.bind_some, if_pos rfl, m_takes_n (c := 61) h2 (zov_no (c := 61) (by omega) rfl hx), Option.bind_some, if_pos rfl, m_takes_n (c := 62) h2 (zov_no (c := 62) (by omega) rfl hx), Option.bind_some, if_pos rfl]
        · unfold zC1
          rw [h1, Option.bind_some, if_neg (show ¬ zov (zpn b n p') = (60 : Int32) from zov_no (c := 60) (by omega) rfl hx), if_neg (show ¬ zov (zpn b n p') = (61 : Int32) from zov_no (c := 61) (by omega) rfl hx), if_neg (show ¬ zov (zpn b n p') = (62 : Int32) from zov_no (c := 62) (by omega) rfl hx)]
      cases e : zpn b n p' with
      | none => exact hstop (fun s e2 => by rw [e] at e2; cases e2)
      | some s =>
        obtain ⟨hp, hbs⟩ := zpn_s e
        cases hSs : zS1 s with
        | false => exact hstop (fun s2 e2 => by rw [e] at e2; cases e2; exact ⟨by have := hb p' hp; omega, hSs⟩)
        | true =>
          rw [e] at h1 h2
          have hops : s ∈ zops := by rcases zS1_c hSs with rfl | rfl | rfl <;> decide
          have hC : zC1 rcC (nI o) V1 = (fc_Reader_readSum rcC (zup V1 180 3 (V1 180 3 + 1)) (nI o)).bind fun r => if r.1 = 0 then some (0, r.2) else (fc_Reader_write r.2 (nI s) 0).bind fun r2 => some (1, r2) := by
            unfold zC1
            rw [h1, Option.bind_some]
            rcases zS1_c hSs with rfl | rfl | rfl
            · rw [if_pos (show zov (some 60) = (60 : Int32) from rfl)]; rfl
            · rw [if_neg (show ¬ zov (some 61) = (60 : Int32) by decide), if_pos (show zov (some 61) = (61 : Int32) from rfl)]; rfl
            · rw [if_neg (show ¬ zov (some 62) = (60 : Int32) by decide), if_neg (show ¬ zov (some 62) = (61 : Int32) by decide), if_pos (show zov (some 62) = (62 : Int32) from rfl)]; rfl
          have hM : zE1 rcM U1 = (fm_sum rcM (zup U1 0 6 (U1 0 6 + 1))).bind fun r => (fm_codes r (nI (zop (s, 0)))).bind fun r2 => some r2 := by
            unfold zE1
            rcases zS1_c hSs with rfl | rfl | rfl
            · rw [m_takes_y (c := 60) h2, Option.bind_some, if_neg z10]; rfl
            · rw [m_takes_n (x := some 61) (c := 60) h2 (by decide), Option.bind_some, if_pos rfl, m_takes_y (c := 61) h2, Option.bind_some, if_neg z10]; rfl
            · rw [m_takes_n (x := some 62) (c := 60) h2 (by decide), Option.bind_some, if_pos rfl, m_takes_n (x := some 62) (c := 61) h2 (by decide), Option.bind_some, if_pos rfl, m_takes_y (c := 62) h2, Option.bind_some, if_neg z10]; rfl
          obtain ⟨V2, U2, r1, r2, r3, r4⟩ := zsums hsub (zgd_adv k4 hp)
          have f1 := zfr_t (zfr_t q2 (zfr_adv V1 _)) r2
          have f2 := mfr_t (mfr_t q3 (mfr_adv U1 _)) r3
          rw [hC, hM, r1, Option.bind_some]
          rcases r4 with ⟨j1, p2, q', j2, j3, j4, j5⟩ | ⟨j1, j2⟩
          · have hp2 := j4.1.2.1
            obtain ⟨V3, U3, w1, w2, w3, w4, w5⟩ := zgd_write j4 (by rw [List.length_append, List.length_append]; rw [List.length_append] at hlp; have hl := h.1.2.2.1; omega) (s, 0)
            have w1 : fc_Reader_write V2 (nI s) 0 = some V3 := w1
            rw [j1, Option.bind_some, if_neg z10]
            show zrs u n o b p l V U ((fc_Reader_write V2 (nI s) 0).bind fun r2 => some (1, r2)) _
            rw [w1, w2, Option.bind_some, Option.bind_some]
            refine ⟨V3, U3, rfl, zfr_t f1 w4, mfr_t f2 w5, Or.inl ⟨rfl, p2, (s, 0) :: (q' ++ q), by omega, by rw [List.length_cons, List.length_append]; omega, ?_, fun d hd => ?_⟩⟩
            · rw [show (s, 0) :: (q' ++ q) ++ l = (s, 0) :: (q' ++ (q ++ l)) by simp]
              exact w3
            · rw [show (s, 0) :: (q' ++ q) ++ l = (s, 0) :: (q' ++ (q ++ l)) by simp]
              exact zdep_bin hops (j5 (d + 1) (k5 d hd))
          · obtain ⟨p3, z1, z2, z3, z4, z5⟩ := j2
            rw [j1, Option.bind_some, if_pos rfl, m_codes_w z4, Option.bind_some]
            exact ⟨V2, U2, rfl, f1, f2, Or.inr ⟨rfl, p3, z1, z2, z3, z4, z5⟩⟩
    · rw [k1, Option.bind_some, if_pos rfl]
      have z4 := k2
      obtain ⟨p', z1, z2, z3, z4, z5⟩ := z4
      have hw := m_here_w z4
      refine ⟨V1, U1, ?_, q2, q3, Or.inr ⟨rfl, k2⟩⟩
      unfold zE1
      rw [m_takes_n (c := 60) hw (by decide), Option.bind_some, if_pos rfl, m_takes_n (c := 61) hw (by decide), Option.bind_some, if_pos rfl, m_takes_n (c := 62) hw (by decide), Option.bind_some, if_pos rfl]
  exact key
theorem zboth {u n o : Nat} {b : Nat → Nat} {rcC : zI → Int32 → Option (Int32 × zI)} {rcM : zI → Option zI} (hsub : ∀ p l V U, zgd u n o b p l V U → zrs u n o b p l V U (rcC V (nI o)) (rcM U)) {p : Nat} {l : List (Nat × Nat)} {V U : zI} (h : zgd u n o b p l V U) : zrs u n o b p l V U (fc_Reader_readAnd rcC V (nI o)) (fm_both rcM U) := by
  have hc : ∀ s, (s == 38) = true → s = 38 := fun s hs => beq_iff_eq.mp hs
  have := zlevel (S := fun s => s == 38) (CL := fun f i V => fc_Reader_readAnd_L12 rcC f (nI o) i V) (ML := fun F U => fm_both_L4 rcM F U) (sC := fun V => fc_Reader_readCompared rcC V (nI o)) (sM := fun U => fm_compared rcM U) (fun s hs => by rw [hc s hs]; decide) (fun f i V s hi hn hs => by
    have := hc s hs
    subst this
    show fc_Reader_readAnd_L12 rcC (f + 1) (nI o) (nI i) V = _
    rw [fc_Reader_readAnd_L12, if_neg (show ¬ (60 : Int32) ≤ nI i from nI_ge (b := 60) hi (by omega)), hn, Option.bind_some, nI_1, if_pos (show nI 38 = (38 : Int32) from rfl)]
    rfl) (fun f i V x hi hn hx => by
    show fc_Reader_readAnd_L12 rcC (f + 1) (nI o) (nI i) V = _
    rw [fc_Reader_readAnd_L12, if_neg (show ¬ (60 : Int32) ≤ nI i from nI_ge (b := 60) hi (by omega)), hn, Option.bind_some, if_neg (show ¬ zov x = (38 : Int32) from zov_no (c := 38) (by omega) rfl hx)]) (fun F U s hh hs => by
    have := hc s hs
    subst this
    show fm_both_L4 rcM (F + 1) U = _
    rw [fm_both_L4, m_takes_y (c := 38) hh, Option.bind_some, if_neg z10]
    rfl) (fun F U x hh hx => by
    show fm_both_L4 rcM (F + 1) U = _
    rw [fm_both_L4, m_takes_n (c := 38) hh (zov_no (c := 38) (by omega) rfl hx), Option.bind_some, if_pos rfl]) (fun p l V U h => zcompared hsub h) h
  exact this
theorem zeither {u n o : Nat} {b : Nat → Nat} {rcC : zI → Int32 → Option (Int32 × zI)} {rcM : zI → Option zI} (hsub : ∀ p l V U, zgd u n o b p l V U → zrs u n o b p l V U (rcC V (nI o)) (rcM U)) {p : Nat} {l : List (Nat × Nat)} {V U : zI} (h : zgd u n o b p l V U) : zrs u n o b p l V U (fc_Reader_readOr rcC V (nI o)) (fm_either rcM U) := by
  have hc : ∀ s, (s == 124) = true → s = 124 := fun s hs => beq_iff_eq.mp hs
  have := zlevel (S := fun s => s == 124) (CL := fun f i V => fc_Reader_readOr_L12 rcC f (nI o) i V) (ML := fun F U => fm_either_L4 rcM F U) (sC := fun V => fc_Reader_readAnd rcC V (nI o)) (sM := fun U => fm_both rcM U) (fun s hs => by rw [hc s hs]; decide) (fun f i V s hi hn hs => by
    have := hc s hs
    subst this
    show fc_Reader_readOr_L12 rcC (f + 1) (nI o) (nI i) V = _
    rw [fc_Reader_readOr_L12, if_neg (show ¬ (60 : Int32) ≤ nI i from nI_ge (b := 60) hi (by omega)), hn, Option.bind_some, nI_1, if_pos (show nI 124 = (124 : Int32) from rfl)]
    rfl) (fun f i V x hi hn hx => by
    show fc_Reader_readOr_L12 rcC (f + 1) (nI o) (nI i) V = _
    rw [fc_Reader_readOr_L12, if_neg (show ¬ (60 : Int32) ≤ nI i from nI_ge (b := 60) hi (by omega)), hn, Option.bind_some, if_neg (show ¬ zov x = (124 : Int32) from zov_no (c := 124) (by omega) rfl hx)]) (fun F U s hh hs => by
    have := hc s hs
    subst this
    show fm_either_L4 rcM (F + 1) U = _
    rw [fm_either_L4, m_takes_y (c := 124) hh, Option.bind_some, if_neg z10]
    rfl) (fun F U x hh hx => by
    show fm_either_L4 rcM (F + 1) U = _
    rw [fm_either_L4, m_takes_n (c := 124) hh (zov_no (c := 124) (by omega) rfl hx), Option.bind_some, if_pos rfl]) (fun p l V U h => zboth hsub h) h
  exact this
