/-! TurnedLandModel.bodyFrom(0, None, None, None) -/
def fm_bodyFrom_L3 (rc : zI → Int32 → Int32 → Int32 → Option (Int32 × zI)) : Nat → Int32 → Int32 → Int32 → zI → Option (Int32 × zI)
  | 0, _, _, _, _ => none
  | nf + 1, v2, v3, v4, I =>
    (fm_hasOwn I v4 v2).bind fun r1 =>
    if r1 = 0 then
      (fm_above I v4).bind fun r7 =>
      fm_bodyFrom_L3 rc nf v2 v3 r7 I
    else
      if (I 0 27) = 0 then
        (fm_body rc I v4 v2 v3).bind fun r5 =>
        some (r5.1, r5.2)
      else
        some ((0 : Int32), I)
def fm_bodyFromB (rc : zI → Int32 → Int32 → Int32 → Option (Int32 × zI)) (I : zI) (a1 : Int32) (a2 : Int32) (a3 : Int32) : Option (Int32 × zI) :=
  fm_bodyFrom_L3 rc
    100 a2 a3 a1 I
def fm_bodyFrom : Nat → zI → Int32 → Int32 → Int32 → Option (Int32 × zI)
  | 0 => fun _ _ _ _ => none
  | nf + 1 => fm_bodyFromB (fm_bodyFrom nf)
set_option maxRecDepth 20000 in
theorem lt_fm_bodyFrom_L3 {rc : zI → Int32 → Int32 → Int32 → Option (Int32 × zI)} {dd : Nat} (hrc : ∀ (I : zI) (x0 : Int32) (x1 : Int32) (x2 : Int32) (res : (Int32 × zI)), rc I x0 x1 x2 = some res → zM dd ym_238 [.inr (.inr (some 0)), .inl x0, .inl x1, .inl x2] (zMs, zMr, I) (some (.inl res.1)) (zMs, zMr, res.2) 0 0) {res : (Int32 × zI)} : ∀ (nf : Nat) (v2 : Int32) (v3 : Int32) (v4 : Int32) (I : zI), fm_bodyFrom_L3 rc nf v2 v3 v4 I = some res → zG (dd + 4) ym_238 0 0 (some (.inl res.1)) (zMs, zMr, res.2) zMs.length 3 [(0, .inr (.inr (some 0))), (2, .inl v2), (3, .inl v3), (4, .inl v4)] [] (zMs, zMr, I) 0 0 := by
  intro nf
  induction nf with
  | zero =>
    intro v2 v3 v4 I h
    have h2 : none = some res := h
    cases h2
  | succ nf ih =>
    intro v2 v3 v4 I h
    rw [fm_bodyFrom_L3] at h
    refine zg_iload dd_238_3 (j := 3) rfl ?_
    refine zg_iload_n dd_238_5 rfl (j := 1) rfl ?_
    obtain ⟨r1, e2, h⟩ := z_bd h
    refine zg_invS_i (av := [.inl v4, .inl v2]) (st := []) (n := 2) dd_238_6 ca_239 zw_1553 zw_1554 (mt_fm_hasOwn e2) rfl ⟨by omega, by decide⟩ (Nat.le_of_ble_eq_true rfl) ?_
    refine zg_if_ne (tgt := 22) dd_238_9 (by decide) (fun q3 => ?_) (fun q3 => ?_)
    · replace h := z_f h q3
      refine zg_aload_n dd_238_22 rfl (j := 0) rfl ?_
      refine zg_getI (x := (I 0 27)) dd_238_23 zl_M_311 zMs_0 rfl rfl ?_
      refine zg_if_eq (tgt := 33) dd_238_26 (by decide) (fun q4 => ?_) (fun q4 => ?_)
      · replace h := z_t h q4
        refine zg_aload_n dd_238_33 rfl (j := 0) rfl ?_
        refine zg_iload dd_238_34 (j := 3) rfl ?_
        refine zg_iload_n dd_238_36 rfl (j := 1) rfl ?_
        refine zg_iload_n dd_238_37 rfl (j := 2) rfl ?_
        obtain ⟨r5, e6, h⟩ := z_bd h
        refine zg_invV_i (av := [.inl v4, .inl v2, .inl v3]) (st := []) (n := 3) dd_238_38 ca_240 zw_1556 zw_1558 zv_79 zMs_0 zcl_12 rfl (mt_fm_body hrc e6) rfl ⟨by omega, by decide⟩ (Nat.le_of_ble_eq_true rfl) ?_
        obtain rfl := Option.some.inj h
        exact zg_iret dd_238_41 rfl
      · replace h := z_f h q4
        refine zg_iconst dd_238_29 kI_0 ?_
        refine zg_goto (tgt := 41) dd_238_30 (by decide) ?_
        obtain rfl := Option.some.inj h
        exact zg_iret dd_238_41 rfl
    · replace h := z_t h q3
      refine zg_iload dd_238_12 (j := 3) rfl ?_
      obtain ⟨r7, e8, h⟩ := z_bd h
      refine zg_invS_i (av := [.inl v4]) (st := []) (n := 1) dd_238_14 ca_207 zw_1424 zw_1425 (mt_fm_above e8) rfl ⟨by omega, by decide⟩ (Nat.le_of_ble_eq_true rfl) ?_
      refine zg_istore dd_238_17 (Nat.le_of_ble_eq_true rfl) (lv' := [(4, .inl r7), (0, .inr (.inr (some 0))), (2, .inl v2), (3, .inl v3)]) rfl ?_
      refine zg_goto (tgt := 3) dd_238_19 (by decide) ?_
      refine zg_sub [1, 2, 3, 0] rfl ?_
      exact ih _ _ _ _ h
set_option maxRecDepth 20000 in
theorem mt_fm_bodyFromB {rc : zI → Int32 → Int32 → Int32 → Option (Int32 × zI)} {dd : Nat} (hrc : ∀ (I : zI) (x0 : Int32) (x1 : Int32) (x2 : Int32) (res : (Int32 × zI)), rc I x0 x1 x2 = some res → zM dd ym_238 [.inr (.inr (some 0)), .inl x0, .inl x1, .inl x2] (zMs, zMr, I) (some (.inl res.1)) (zMs, zMr, res.2) 0 0) {I : zI} {a1 : Int32} {a2 : Int32} {a3 : Int32} {res : (Int32 × zI)} (h : fm_bodyFromB rc I a1 a2 a3 = some res) : zM (dd + 4) ym_238 [.inr (.inr (some 0)), .inl a1, .inl a2, .inl a3] (zMs, zMr, I) (some (.inl res.1)) (zMs, zMr, res.2) 0 0 := by
  refine zM_of (by decide) (Nat.le_of_ble_eq_true rfl) (lv := [(0, .inr (.inr (some 0))), (1, .inl a1), (2, .inl a2), (3, .inl a3)]) rfl ?_
  rw [fm_bodyFromB] at h
  refine zg_iload_n dd_238_0 rfl (j := 1) rfl ?_
  refine zg_istore dd_238_1 (Nat.le_of_ble_eq_true rfl) (lv' := [(4, .inl a1), (0, .inr (.inr (some 0))), (1, .inl a1), (2, .inl a2), (3, .inl a3)]) rfl ?_
  refine zg_sub [1, 3, 4, 0] rfl ?_
  refine lt_fm_bodyFrom_L3 hrc  _ _ _ _ _ h
set_option maxRecDepth 20000 in
theorem mt_fm_bodyFrom : ∀ (nf : Nat) (I : zI) (a1 : Int32) (a2 : Int32) (a3 : Int32) (res : (Int32 × zI)), fm_bodyFrom nf I a1 a2 a3 = some res → zM (zdp 4 nf) ym_238 [.inr (.inr (some 0)), .inl a1, .inl a2, .inl a3] (zMs, zMr, I) (some (.inl res.1)) (zMs, zMr, res.2) 0 0
  | 0, I, a1, a2, a3, res, h => by
    have h2 : none = some res := h
    cases h2
  | nf + 1, I, a1, a2, a3, res, h => mt_fm_bodyFromB (mt_fm_bodyFrom nf) h
/-! TurnedLandModel.voice(0, None, None, None) -/
def fm_voice (I : zI) (a1 : Int32) (a2 : Int32) (a3 : Int32) : Option (Int32 × zI) :=
  (fm_is I a1 (2 : Int32)).bind fun r1 =>
  if r1 = 0 then
    (fm_finding I (-1000001 : Int32)).bind fun r4 =>
    some (r4.1, r4.2)
  else
    (fm_within I a2 (0 : Int32) (3 : Int32)).bind fun r6 =>
    if r6 = 0 then
      (fm_finding I (-1000001 : Int32)).bind fun r14 =>
      some (r14.1, r14.2)
    else
      (fm_voiced (fm_bodyFrom 40) (zup (zup (zup I 0 25 (0 : Int32)) 0 26 a1) 0 27 (0 : Int32)) a2 a3).bind fun r9 =>
      if (r9.2 0 27) = 0 then
        some (r9.1, r9.2)
      else
        (fm_finding r9.2 (-1000006 : Int32)).bind fun r12 =>
        some (r12.1, r12.2)
set_option maxRecDepth 20000 in
theorem mt_fm_voice {I : zI} {a1 : Int32} {a2 : Int32} {a3 : Int32} {res : (Int32 × zI)} (h : fm_voice I a1 a2 a3 = some res) : zM 163 ym_236 [.inr (.inr (some 0)), .inl a1, .inl a2, .inl a3] (zMs, zMr, I) (some (.inl res.1)) (zMs, zMr, res.2) 0 0 := by
  refine zM_of (by decide) (Nat.le_of_ble_eq_true rfl) (lv := [(0, .inr (.inr (some 0))), (1, .inl a1), (2, .inl a2), (3, .inl a3)]) rfl ?_
  rw [fm_voice] at h
  refine zg_aload_n dd_236_0 rfl (j := 0) rfl ?_
  refine zg_iload_n dd_236_1 rfl (j := 1) rfl ?_
  refine zg_iconst dd_236_2 kI_2 ?_
  obtain ⟨r1, e2, h⟩ := z_bd h
  refine zg_invV_i (av := [.inl a1, .inl (2 : Int32)]) (st := []) (n := 2) dd_236_3 ca_144 zw_1150 zw_1152 zv_32 zMs_0 zcl_12 rfl (mt_fm_is e2) rfl ⟨by decide +kernel, by decide⟩ (Nat.le_of_ble_eq_true rfl) ?_
  refine zg_if_eq (tgt := 18) dd_236_6 (by decide) (fun q3 => ?_) (fun q3 => ?_)
  · replace h := z_t h q3
    refine zg_aload_n dd_236_18 rfl (j := 0) rfl ?_
    refine zg_ldc dd_236_19 zw_1139 ?_
    obtain ⟨r4, e5, h⟩ := z_bd h
    refine zg_invV_i (av := [.inl (-1000001 : Int32)]) (st := []) (n := 1) dd_236_21 ca_142 zw_1140 zw_1142 zv_31 zMs_0 zcl_12 rfl (mt_fm_finding e5) rfl ⟨by decide +kernel, by decide⟩ (Nat.le_of_ble_eq_true rfl) ?_
    obtain rfl := Option.some.inj h
    exact zg_iret dd_236_24 rfl
  · replace h := z_f h q3
    refine zg_iload_n dd_236_9 rfl (j := 2) rfl ?_
    refine zg_iconst dd_236_10 kI_0 ?_
    refine zg_iconst dd_236_11 kI_3 ?_
    obtain ⟨r6, e7, h⟩ := z_bd h
    refine zg_invS_i (av := [.inl a2, .inl (0 : Int32), .inl (3 : Int32)]) (st := []) (n := 3) dd_236_12 ca_141 zw_1136 zw_1137 (mt_fm_within e7) rfl ⟨by decide +kernel, by decide⟩ (Nat.le_of_ble_eq_true rfl) ?_
    refine zg_if_ne (tgt := 25) dd_236_15 (by decide) (fun q8 => ?_) (fun q8 => ?_)
    · replace h := z_f h q8
      refine zg_aload_n dd_236_25 rfl (j := 0) rfl ?_
      refine zg_iconst dd_236_26 kI_0 ?_
      refine zg_putI dd_236_27 zp_M_299 zMs_0 rfl (zSt_int _) ?_
      refine zg_aload_n dd_236_30 rfl (j := 0) rfl ?_
      refine zg_iload_n dd_236_31 rfl (j := 1) rfl ?_
      refine zg_putI dd_236_32 zp_M_302 zMs_0 rfl (zSt_int _) ?_
      refine zg_aload_n dd_236_35 rfl (j := 0) rfl ?_
      refine zg_iconst dd_236_36 kI_0 ?_
      refine zg_putI dd_236_37 zp_M_311 zMs_0 rfl zSt_b0 ?_
      refine zg_aload_n dd_236_40 rfl (j := 0) rfl ?_
      refine zg_iload_n dd_236_41 rfl (j := 2) rfl ?_
      refine zg_iload_n dd_236_42 rfl (j := 3) rfl ?_
      obtain ⟨r9, e10, h⟩ := z_bd h
      refine zg_invV_i (av := [.inl a2, .inl a3]) (st := []) (n := 2) dd_236_43 ca_237 zw_1545 zw_1547 zv_77 zMs_0 zcl_12 rfl (mt_fm_voiced (mt_fm_bodyFrom 40) e10) rfl ⟨by decide +kernel, by decide⟩ (Nat.le_of_ble_eq_true rfl) ?_
      refine zg_istore dd_236_46 (Nat.le_of_ble_eq_true rfl) (lv' := [(4, .inl r9.1), (0, .inr (.inr (some 0))), (1, .inl a1), (2, .inl a2), (3, .inl a3)]) rfl ?_
      refine zg_aload_n dd_236_48 rfl (j := 1) rfl ?_
      refine zg_getI (x := (r9.2 0 27)) dd_236_49 zl_M_311 zMs_0 rfl rfl ?_
      refine zg_if_eq (tgt := 65) dd_236_52 (by decide) (fun q11 => ?_) (fun q11 => ?_)
      · replace h := z_t h q11
        refine zg_iload dd_236_65 (j := 0) rfl ?_
        obtain rfl := Option.some.inj h
        exact zg_iret dd_236_67 rfl
      · replace h := z_f h q11
        refine zg_aload_n dd_236_55 rfl (j := 1) rfl ?_
        refine zg_ldcw dd_236_56 zw_1564 ?_
        obtain ⟨r12, e13, h⟩ := z_bd h
        refine zg_invV_i (av := [.inl (-1000006 : Int32)]) (st := []) (n := 1) dd_236_59 ca_142 zw_1140 zw_1142 zv_31 zMs_0 zcl_12 rfl (mt_fm_finding e13) rfl ⟨by decide +kernel, by decide⟩ (Nat.le_of_ble_eq_true rfl) ?_
        refine zg_goto (tgt := 67) dd_236_62 (by decide) ?_
        obtain rfl := Option.some.inj h
        exact zg_iret dd_236_67 rfl
    · replace h := z_t h q8
      refine zg_aload_n dd_236_18 rfl (j := 0) rfl ?_
      refine zg_ldc dd_236_19 zw_1139 ?_
      obtain ⟨r14, e15, h⟩ := z_bd h
      refine zg_invV_i (av := [.inl (-1000001 : Int32)]) (st := []) (n := 1) dd_236_21 ca_142 zw_1140 zw_1142 zv_31 zMs_0 zcl_12 rfl (mt_fm_finding e15) rfl ⟨by decide +kernel, by decide⟩ (Nat.le_of_ble_eq_true rfl) ?_
      obtain rfl := Option.some.inj h
      exact zg_iret dd_236_24 rfl
/-! TurnedLandModel.body(0, None) -/
def fm_body_2 (I : zI) (a1 : Int32) : Option (Int32 × zI) :=
  (fm_within I a1 (0 : Int32) ((I 0 25) - (1 : Int32))).bind fun r1 =>
  if r1 = 0 then
    (fm_finding I (-1000002 : Int32)).bind fun r4 =>
    some (r4.1, r4.2)
  else
    z_guard (zb a1 30) <|
    some ((I 11 a1.toNatClampNeg), I)
set_option maxRecDepth 20000 in
theorem mt_fm_body_2 {I : zI} {a1 : Int32} {res : (Int32 × zI)} (h : fm_body_2 I a1 = some res) : zM 2 ym_242 [.inr (.inr (some 0)), .inl a1] (zMs, zMr, I) (some (.inl res.1)) (zMs, zMr, res.2) 0 0 := by
  refine zM_of (by decide) (Nat.le_of_ble_eq_true rfl) (lv := [(0, .inr (.inr (some 0))), (1, .inl a1)]) rfl ?_
  rw [fm_body_2] at h
  refine zg_iload_n dd_242_0 rfl (j := 1) rfl ?_
  refine zg_iconst dd_242_1 kI_0 ?_
  refine zg_aload_n dd_242_2 rfl (j := 0) rfl ?_
  refine zg_getI (x := (I 0 25)) dd_242_3 zl_M_299 zMs_0 rfl rfl ?_
  refine zg_iconst dd_242_6 kI_1 ?_
  refine zg_isub dd_242_7 ?_
  obtain ⟨r1, e2, h⟩ := z_bd h
  refine zg_invS_i (av := [.inl a1, .inl (0 : Int32), .inl ((I 0 25) - (1 : Int32))]) (st := []) (n := 3) dd_242_8 ca_141 zw_1136 zw_1137 (mt_fm_within e2) rfl ⟨by decide +kernel, by decide⟩ (Nat.le_of_ble_eq_true rfl) ?_
  refine zg_if_eq (tgt := 23) dd_242_11 (by decide) (fun q3 => ?_) (fun q3 => ?_)
  · replace h := z_t h q3
    refine zg_aload_n dd_242_23 rfl (j := 0) rfl ?_
    refine zg_ldc dd_242_24 zw_1199 ?_
    obtain ⟨r4, e5, h⟩ := z_bd h
    refine zg_invV_i (av := [.inl (-1000002 : Int32)]) (st := []) (n := 1) dd_242_26 ca_142 zw_1140 zw_1142 zv_31 zMs_0 zcl_12 rfl (mt_fm_finding e5) rfl ⟨by decide +kernel, by decide⟩ (Nat.le_of_ble_eq_true rfl) ?_
    obtain rfl := Option.some.inj h
    exact zg_iret dd_242_29 rfl
  · replace h := z_f h q3
    refine zg_aload_n dd_242_14 rfl (j := 0) rfl ?_
    refine zg_getR dd_242_15 zl_M_47 zMs_0 rfl zMr_0_24 ?_
    refine zg_iload_n dd_242_18 rfl (j := 1) rfl ?_
    obtain ⟨g6, h⟩ := z_gd h
    refine zg_iald (w := (I 11 a1.toNatClampNeg)) dd_242_19 zMs_11 g6 rfl ?_
    refine zg_goto (tgt := 29) dd_242_20 (by decide) ?_
    obtain rfl := Option.some.inj h
    exact zg_iret dd_242_29 rfl
/-! TurnedLandModel.isSheet[None] -/
def fm_isSheet (I : zI) (a0 : Int32) : Option Int32 :=
  (fm_within I a0 (0 : Int32) (3 : Int32)).bind fun r1 =>
  z_guard (zbb r1) <|
  some r1
set_option maxRecDepth 20000 in
theorem mt_fm_isSheet {I : zI} {a0 : Int32} {res : Int32} (h : fm_isSheet I a0 = some res) : zM 2 ym_244 [.inl a0] (zMs, zMr, I) (some (.inl res)) (zMs, zMr, I) 0 0 := by
  refine zM_of (by decide) (Nat.le_of_ble_eq_true rfl) (lv := [(0, .inl a0)]) rfl ?_
  rw [fm_isSheet] at h
  refine zg_iload_n dd_244_0 rfl (j := 0) rfl ?_
  refine zg_iconst dd_244_1 kI_0 ?_
  refine zg_iconst dd_244_2 kI_3 ?_
  obtain ⟨r1, e2, h⟩ := z_bd h
  refine zg_invS_i (av := [.inl a0, .inl (0 : Int32), .inl (3 : Int32)]) (st := []) (n := 3) dd_244_3 ca_141 zw_1136 zw_1137 (mt_fm_within e2) rfl ⟨by decide +kernel, by decide⟩ (Nat.le_of_ble_eq_true rfl) ?_
  obtain ⟨g3, h⟩ := z_gd h
  obtain rfl := Option.some.inj h
  exact zg_zret dd_244_6 rfl (zSt_bb g3).1
/-! TurnedLandModel.sheet(0, None, None, None) -/
def fm_sheet_L93 : Nat → Int32 → Int32 → zI → Option (Int32 × zI)
  | 0, _, _, _ => none
  | nf + 1, v1, v4, I =>
    if (24 : Int32) ≤ v4 then
      some ((1 : Int32), I)
    else
      z_guard (zb (((24 : Int32) * v1) + v4) 96) <|
      fm_sheet_L93 nf v1 (v4 + (1 : Int32)) (zup I 14 (((24 : Int32) * v1) + v4).toNatClampNeg (0 : Int32))
def fm_sheet_J68 (I : zI) (v1 : Int32) (v2 : Int32) (v3 : Int32) : Option (Int32 × zI) :=
  z_guard (zb v1 4) <|
  if v2 = 0 then
    fm_sheet_L93
      100 v1 (0 : Int32) (zup (zup I 12 v1.toNatClampNeg v2) 13 v1.toNatClampNeg (0 : Int32))
  else
    fm_sheet_L93
      100 v1 (0 : Int32) (zup (zup I 12 v1.toNatClampNeg v2) 13 v1.toNatClampNeg v3)
def fm_sheet_J51 (I : zI) (v1 : Int32) (v2 : Int32) (v3 : Int32) : Option (Int32 × zI) :=
  if v2 = 0 then
    fm_sheet_J68 I v1 v2 v3
  else
    if v3 ≤ (24 : Int32) then
      fm_sheet_J68 I v1 v2 v3
    else
      (fm_finding I (-1000001 : Int32)).bind fun r14 =>
      some (r14.1, r14.2)
def fm_sheet_J36 (I : zI) (v1 : Int32) (v2 : Int32) (v3 : Int32) : Option (Int32 × zI) :=
  if v2 = 0 then
    fm_sheet_J51 I v1 v2 v3
  else
    if 0 ≤ v3 then
      fm_sheet_J51 I v1 v2 v3
    else
      (fm_finding I (-1000003 : Int32)).bind fun r17 =>
      some (r17.1, r17.2)
def fm_sheet (I : zI) (a1 : Int32) (a2 : Int32) (a3 : Int32) : Option (Int32 × zI) :=
  (fm_isSheet I a1).bind fun r1 =>
  if r1 = 0 then
    (fm_finding I (-1000001 : Int32)).bind fun r4 =>
    some (r4.1, r4.2)
  else
    if a2 = 0 then
      fm_sheet_J36 I a1 a2 a3
    else
      if a2 = (8 : Int32) then
        fm_sheet_J36 I a1 a2 a3
      else
        if a2 = (16 : Int32) then
          fm_sheet_J36 I a1 a2 a3
        else
          if a2 = (32 : Int32) then
            fm_sheet_J36 I a1 a2 a3
          else
            (fm_finding I (-1000001 : Int32)).bind fun r22 =>
            some (r22.1, r22.2)
set_option maxRecDepth 20000 in
theorem lt_fm_sheet_L93 {res : (Int32 × zI)} : ∀ (nf : Nat) (v1 : Int32) (v4 : Int32) (I : zI), fm_sheet_L93 nf v1 v4 I = some res → zG 3 ym_243 0 0 (some (.inl res.1)) (zMs, zMr, res.2) zMs.length 93 [(0, .inr (.inr (some 0))), (1, .inl v1), (4, .inl v4)] [] (zMs, zMr, I) 0 0 := by
  intro nf
  induction nf with
  | zero =>
    intro v1 v4 I h
    have h2 : none = some res := h
    cases h2
  | succ nf ih =>
    intro v1 v4 I h
    rw [fm_sheet_L93] at h
    refine zg_iload dd_243_93 (j := 2) rfl ?_
    refine zg_bipush dd_243_95 kB_24 ?_
    refine zg_icmp_ge (tgt := 119) dd_243_97 (by decide) (fun q11 => ?_) (fun q11 => ?_)
    · replace h := z_t h q11
      refine zg_iconst dd_243_119 kI_1 ?_
      obtain rfl := Option.some.inj h
      exact zg_iret dd_243_120 rfl
    · replace h := z_f h q11
      refine zg_aload_n dd_243_100 rfl (j := 0) rfl ?_
      refine zg_getR dd_243_101 zl_M_56 zMs_0 rfl zMr_0_30 ?_
      refine zg_bipush dd_243_104 kB_24 ?_
      refine zg_iload_n dd_243_106 rfl (j := 1) rfl ?_
      refine zg_imul dd_243_107 ?_
      refine zg_iload dd_243_108 (j := 2) rfl ?_
      refine zg_iadd dd_243_110 ?_
      refine zg_iconst dd_243_111 kI_0 ?_
      obtain ⟨g12, h⟩ := z_gd h
      refine zg_iast dd_243_112 zMs_14 g12 ?_
      refine zg_iinc dd_243_113 (j := 2) rfl (v := (v4 + (1 : Int32))) (by rw [kI_1]) (Nat.le_of_ble_eq_true rfl) (lv' := [(4, .inl (v4 + (1 : Int32))), (0, .inr (.inr (some 0))), (1, .inl v1)]) rfl ?_
      refine zg_goto (tgt := 93) dd_243_116 (by decide) ?_
      refine zg_sub [1, 2, 0] rfl ?_
      exact ih _ _ _ h
set_option maxRecDepth 20000 in
theorem jt_fm_sheet_J68 {res : (Int32 × zI)} {I : zI} {v1 : Int32} {v2 : Int32} {v3 : Int32} (h : fm_sheet_J68 I v1 v2 v3 = some res) : zG 3 ym_243 0 0 (some (.inl res.1)) (zMs, zMr, res.2) zMs.length 68 [(0, .inr (.inr (some 0))), (1, .inl v1), (2, .inl v2), (3, .inl v3)] [] (zMs, zMr, I) 0 0 := by
  rw [fm_sheet_J68] at h
  refine zg_aload_n dd_243_68 rfl (j := 0) rfl ?_
  refine zg_getR dd_243_69 zl_M_50 zMs_0 rfl zMr_0_28 ?_
  refine zg_iload_n dd_243_72 rfl (j := 1) rfl ?_
  refine zg_iload_n dd_243_73 rfl (j := 2) rfl ?_
  obtain ⟨g9, h⟩ := z_gd h
  refine zg_iast dd_243_74 zMs_12 g9 ?_
  refine zg_aload_n dd_243_75 rfl (j := 0) rfl ?_
  refine zg_getR dd_243_76 zl_M_53 zMs_0 rfl zMr_0_29 ?_
  refine zg_iload_n dd_243_79 rfl (j := 1) rfl ?_
  refine zg_iload_n dd_243_80 rfl (j := 2) rfl ?_
  refine zg_if_ne (tgt := 88) dd_243_81 (by decide) (fun q10 => ?_) (fun q10 => ?_)
  · replace h := z_f h q10
    refine zg_iload_n dd_243_88 rfl (j := 3) rfl ?_
    refine zg_iast dd_243_89 zMs_13 g9 ?_
    refine zg_iconst dd_243_90 kI_0 ?_
    refine zg_istore dd_243_91 (Nat.le_of_ble_eq_true rfl) (lv' := [(4, .inl (0 : Int32)), (0, .inr (.inr (some 0))), (1, .inl v1), (2, .inl v2), (3, .inl v3)]) rfl ?_
    refine zg_sub [1, 2, 0] rfl ?_
    refine lt_fm_sheet_L93  _ _ _ _ h
  · replace h := z_t h q10
    refine zg_iconst dd_243_84 kI_0 ?_
    refine zg_goto (tgt := 89) dd_243_85 (by decide) ?_
    refine zg_iast dd_243_89 zMs_13 g9 ?_
    refine zg_iconst dd_243_90 kI_0 ?_
    refine zg_istore dd_243_91 (Nat.le_of_ble_eq_true rfl) (lv' := [(4, .inl (0 : Int32)), (0, .inr (.inr (some 0))), (1, .inl v1), (2, .inl v2), (3, .inl v3)]) rfl ?_
    refine zg_sub [1, 2, 0] rfl ?_
    refine lt_fm_sheet_L93  _ _ _ _ h
set_option maxRecDepth 20000 in
theorem jt_fm_sheet_J51 {res : (Int32 × zI)} {I : zI} {v1 : Int32} {v2 : Int32} {v3 : Int32} (h : fm_sheet_J51 I v1 v2 v3 = some res) : zG 3 ym_243 0 0 (some (.inl res.1)) (zMs, zMr, res.2) zMs.length 51 [(0, .inr (.inr (some 0))), (1, .inl v1), (2, .inl v2), (3, .inl v3)] [] (zMs, zMr, I) 0 0 := by
  rw [fm_sheet_J51] at h
  refine zg_iload_n dd_243_51 rfl (j := 2) rfl ?_
  refine zg_if_eq (tgt := 68) dd_243_52 (by decide) (fun q8 => ?_) (fun q8 => ?_)
  · replace h := z_t h q8
    refine zg_sub [0, 1, 2, 3] rfl ?_
    exact jt_fm_sheet_J68 h
  · replace h := z_f h q8
    refine zg_iload_n dd_243_55 rfl (j := 3) rfl ?_
    refine zg_bipush dd_243_56 kB_24 ?_
    refine zg_icmp_le (tgt := 68) dd_243_58 (by decide) (fun q13 => ?_) (fun q13 => ?_)
    · replace h := z_t h q13
      refine zg_sub [0, 1, 2, 3] rfl ?_
      exact jt_fm_sheet_J68 h
    · replace h := z_f h q13
      refine zg_aload_n dd_243_61 rfl (j := 0) rfl ?_
      refine zg_ldc dd_243_62 zw_1139 ?_
      obtain ⟨r14, e15, h⟩ := z_bd h
      refine zg_invV_i (av := [.inl (-1000001 : Int32)]) (st := []) (n := 1) dd_243_64 ca_142 zw_1140 zw_1142 zv_31 zMs_0 zcl_12 rfl (mt_fm_finding e15) rfl ⟨by decide +kernel, by decide⟩ (Nat.le_of_ble_eq_true rfl) ?_
      obtain rfl := Option.some.inj h
      exact zg_iret dd_243_67 rfl
set_option maxRecDepth 20000 in
theorem jt_fm_sheet_J36 {res : (Int32 × zI)} {I : zI} {v1 : Int32} {v2 : Int32} {v3 : Int32} (h : fm_sheet_J36 I v1 v2 v3 = some res) : zG 3 ym_243 0 0 (some (.inl res.1)) (zMs, zMr, res.2) zMs.length 36 [(0, .inr (.inr (some 0))), (1, .inl v1), (2, .inl v2), (3, .inl v3)] [] (zMs, zMr, I) 0 0 := by
  rw [fm_sheet_J36] at h
  refine zg_iload_n dd_243_36 rfl (j := 2) rfl ?_
  refine zg_if_eq (tgt := 51) dd_243_37 (by decide) (fun q7 => ?_) (fun q7 => ?_)
  · replace h := z_t h q7
    refine zg_sub [0, 1, 2, 3] rfl ?_
    exact jt_fm_sheet_J51 h
  · replace h := z_f h q7
    refine zg_iload_n dd_243_40 rfl (j := 3) rfl ?_
    refine zg_if_ge (tgt := 51) dd_243_41 (by decide) (fun q16 => ?_) (fun q16 => ?_)
    · replace h := z_t h q16
      refine zg_sub [0, 1, 2, 3] rfl ?_
      exact jt_fm_sheet_J51 h
    · replace h := z_f h q16
      refine zg_aload_n dd_243_44 rfl (j := 0) rfl ?_
      refine zg_ldc dd_243_45 zw_1178 ?_
      obtain ⟨r17, e18, h⟩ := z_bd h
      refine zg_invV_i (av := [.inl (-1000003 : Int32)]) (st := []) (n := 1) dd_243_47 ca_142 zw_1140 zw_1142 zv_31 zMs_0 zcl_12 rfl (mt_fm_finding e18) rfl ⟨by decide +kernel, by decide⟩ (Nat.le_of_ble_eq_true rfl) ?_
      obtain rfl := Option.some.inj h
      exact zg_iret dd_243_50 rfl
set_option maxRecDepth 20000 in
theorem mt_fm_sheet {I : zI} {a1 : Int32} {a2 : Int32} {a3 : Int32} {res : (Int32 × zI)} (h : fm_sheet I a1 a2 a3 = some res) : zM 3 ym_243 [.inr (.inr (some 0)), .inl a1, .inl a2, .inl a3] (zMs, zMr, I) (some (.inl res.1)) (zMs, zMr, res.2) 0 0 := by
  refine zM_of (by decide) (Nat.le_of_ble_eq_true rfl) (lv := [(0, .inr (.inr (some 0))), (1, .inl a1), (2, .inl a2), (3, .inl a3)]) rfl ?_
  rw [fm_sheet] at h
  refine zg_iload_n dd_243_0 rfl (j := 1) rfl ?_
  obtain ⟨r1, e2, h⟩ := z_bd h
  refine zg_invS_i (av := [.inl a1]) (st := []) (n := 1) dd_243_1 ca_244 zw_1573 zw_1574 (mt_fm_isSheet e2) rfl ⟨by decide +kernel, by decide⟩ (Nat.le_of_ble_eq_true rfl) ?_
  refine zg_if_eq (tgt := 29) dd_243_4 (by decide) (fun q3 => ?_) (fun q3 => ?_)
  · replace h := z_t h q3
    refine zg_aload_n dd_243_29 rfl (j := 0) rfl ?_
    refine zg_ldc dd_243_30 zw_1139 ?_
    obtain ⟨r4, e5, h⟩ := z_bd h
    refine zg_invV_i (av := [.inl (-1000001 : Int32)]) (st := []) (n := 1) dd_243_32 ca_142 zw_1140 zw_1142 zv_31 zMs_0 zcl_12 rfl (mt_fm_finding e5) rfl ⟨by decide +kernel, by decide⟩ (Nat.le_of_ble_eq_true rfl) ?_
    obtain rfl := Option.some.inj h
    exact zg_iret dd_243_35 rfl
  · replace h := z_f h q3
    refine zg_iload_n dd_243_7 rfl (j := 2) rfl ?_
    refine zg_if_eq (tgt := 36) dd_243_8 (by decide) (fun q6 => ?_) (fun q6 => ?_)
    · replace h := z_t h q6
      refine zg_sub [0, 1, 2, 3] rfl ?_
      exact jt_fm_sheet_J36 h
    · replace h := z_f h q6
      refine zg_iload_n dd_243_11 rfl (j := 2) rfl ?_
      refine zg_bipush dd_243_12 kB_8 ?_
      refine zg_icmp_eq (tgt := 36) dd_243_14 (by decide) (fun q19 => ?_) (fun q19 => ?_)
      · replace h := z_t h q19
        refine zg_sub [0, 1, 2, 3] rfl ?_
        exact jt_fm_sheet_J36 h
      · replace h := z_f h q19
        refine zg_iload_n dd_243_17 rfl (j := 2) rfl ?_
        refine zg_bipush dd_243_18 kB_16 ?_
        refine zg_icmp_eq (tgt := 36) dd_243_20 (by decide) (fun q20 => ?_) (fun q20 => ?_)
        · replace h := z_t h q20
          refine zg_sub [0, 1, 2, 3] rfl ?_
          exact jt_fm_sheet_J36 h
        · replace h := z_f h q20
          refine zg_iload_n dd_243_23 rfl (j := 2) rfl ?_
          refine zg_bipush dd_243_24 kB_32 ?_
          refine zg_icmp_eq (tgt := 36) dd_243_26 (by decide) (fun q21 => ?_) (fun q21 => ?_)
          · replace h := z_t h q21
            refine zg_sub [0, 1, 2, 3] rfl ?_
            exact jt_fm_sheet_J36 h
          · replace h := z_f h q21
            refine zg_aload_n dd_243_29 rfl (j := 0) rfl ?_
            refine zg_ldc dd_243_30 zw_1139 ?_
            obtain ⟨r22, e23, h⟩ := z_bd h
            refine zg_invV_i (av := [.inl (-1000001 : Int32)]) (st := []) (n := 1) dd_243_32 ca_142 zw_1140 zw_1142 zv_31 zMs_0 zcl_12 rfl (mt_fm_finding e23) rfl ⟨by decide +kernel, by decide⟩ (Nat.le_of_ble_eq_true rfl) ?_
            obtain rfl := Option.some.inj h
            exact zg_iret dd_243_35 rfl
/-! TurnedLandModel.put(0, None, None, None) -/
def fm_put (I : zI) (a1 : Int32) (a2 : Int32) (a3 : Int32) : Option (Int32 × zI) :=
  (fm_isSheet I a1).bind fun r1 =>
  if r1 = 0 then
    (fm_finding I (-1000001 : Int32)).bind fun r18 =>
    some (r18.1, r18.2)
  else
    z_guard (zb a1 4) <|
    if (I 12 a1.toNatClampNeg) = 0 then
      (fm_finding I (-1000002 : Int32)).bind fun r16 =>
      some (r16.1, r16.2)
    else
      (fm_within I a2 (0 : Int32) ((I 13 a1.toNatClampNeg) - (1 : Int32))).bind fun r6 =>
      if r6 = 0 then
        (fm_finding I (-1000001 : Int32)).bind fun r14 =>
        some (r14.1, r14.2)
      else
        if (I 12 a1.toNatClampNeg) = (8 : Int32) then
          z_guard (zb (((24 : Int32) * a1) + a2) 96) <|
          some ((1 : Int32), (zup I 14 (((24 : Int32) * a1) + a2).toNatClampNeg ((Int32.toInt8 a3).toInt32)))
        else
          if (I 12 a1.toNatClampNeg) = (16 : Int32) then
            z_guard (zb (((24 : Int32) * a1) + a2) 96) <|
            some ((1 : Int32), (zup I 14 (((24 : Int32) * a1) + a2).toNatClampNeg ((Int32.toInt16 a3).toInt32)))
          else
            z_guard (zb (((24 : Int32) * a1) + a2) 96) <|
            some ((1 : Int32), (zup I 14 (((24 : Int32) * a1) + a2).toNatClampNeg a3))
set_option maxRecDepth 20000 in
theorem mt_fm_put {I : zI} {a1 : Int32} {a2 : Int32} {a3 : Int32} {res : (Int32 × zI)} (h : fm_put I a1 a2 a3 = some res) : zM 3 ym_245 [.inr (.inr (some 0)), .inl a1, .inl a2, .inl a3] (zMs, zMr, I) (some (.inl res.1)) (zMs, zMr, res.2) 0 0 := by
  refine zM_of (by decide) (Nat.le_of_ble_eq_true rfl) (lv := [(0, .inr (.inr (some 0))), (1, .inl a1), (2, .inl a2), (3, .inl a3)]) rfl ?_
  rw [fm_put] at h
  refine zg_iload_n dd_245_0 rfl (j := 1) rfl ?_
  obtain ⟨r1, e2, h⟩ := z_bd h
  refine zg_invS_i (av := [.inl a1]) (st := []) (n := 1) dd_245_1 ca_244 zw_1573 zw_1574 (mt_fm_isSheet e2) rfl ⟨by decide +kernel, by decide⟩ (Nat.le_of_ble_eq_true rfl) ?_
  refine zg_if_ne (tgt := 14) dd_245_4 (by decide) (fun q3 => ?_) (fun q3 => ?_)
  · replace h := z_f h q3
    refine zg_aload_n dd_245_14 rfl (j := 0) rfl ?_
    refine zg_getR dd_245_15 zl_M_50 zMs_0 rfl zMr_0_28 ?_
    refine zg_iload_n dd_245_18 rfl (j := 1) rfl ?_
    obtain ⟨g4, h⟩ := z_gd h
    refine zg_iald (w := (I 12 a1.toNatClampNeg)) dd_245_19 zMs_12 g4 rfl ?_
    refine zg_if_ne (tgt := 30) dd_245_20 (by decide) (fun q5 => ?_) (fun q5 => ?_)
    · replace h := z_f h q5
      refine zg_iload_n dd_245_30 rfl (j := 2) rfl ?_
      refine zg_iconst dd_245_31 kI_0 ?_
      refine zg_aload_n dd_245_32 rfl (j := 0) rfl ?_
      refine zg_getR dd_245_33 zl_M_53 zMs_0 rfl zMr_0_29 ?_
      refine zg_iload_n dd_245_36 rfl (j := 1) rfl ?_
      refine zg_iald (w := (I 13 a1.toNatClampNeg)) dd_245_37 zMs_13 g4 rfl ?_
      refine zg_iconst dd_245_38 kI_1 ?_
      refine zg_isub dd_245_39 ?_
      obtain ⟨r6, e7, h⟩ := z_bd h
      refine zg_invS_i (av := [.inl a2, .inl (0 : Int32), .inl ((I 13 a1.toNatClampNeg) - (1 : Int32))]) (st := []) (n := 3) dd_245_40 ca_141 zw_1136 zw_1137 (mt_fm_within e7) rfl ⟨by decide +kernel, by decide⟩ (Nat.le_of_ble_eq_true rfl) ?_
      refine zg_if_ne (tgt := 53) dd_245_43 (by decide) (fun q8 => ?_) (fun q8 => ?_)
      · replace h := z_f h q8
        refine zg_aload_n dd_245_53 rfl (j := 0) rfl ?_
        refine zg_getR dd_245_54 zl_M_56 zMs_0 rfl zMr_0_30 ?_
        refine zg_bipush dd_245_57 kB_24 ?_
        refine zg_iload_n dd_245_59 rfl (j := 1) rfl ?_
        refine zg_imul dd_245_60 ?_
        refine zg_iload_n dd_245_61 rfl (j := 2) rfl ?_
        refine zg_iadd dd_245_62 ?_
        refine zg_aload_n dd_245_63 rfl (j := 0) rfl ?_
        refine zg_getR dd_245_64 zl_M_50 zMs_0 rfl zMr_0_28 ?_
        refine zg_iload_n dd_245_67 rfl (j := 1) rfl ?_
        refine zg_iald (w := (I 12 a1.toNatClampNeg)) dd_245_68 zMs_12 g4 rfl ?_
        refine zg_bipush dd_245_69 kB_8 ?_
        refine zg_icmp_ne (tgt := 79) dd_245_71 (by decide) (fun q9 => ?_) (fun q9 => ?_)
        · replace h := z_f h q9
          refine zg_aload_n dd_245_79 rfl (j := 0) rfl ?_
          refine zg_getR dd_245_80 zl_M_50 zMs_0 rfl zMr_0_28 ?_
          refine zg_iload_n dd_245_83 rfl (j := 1) rfl ?_
          refine zg_iald (w := (I 12 a1.toNatClampNeg)) dd_245_84 zMs_12 g4 rfl ?_
          refine zg_bipush dd_245_85 kB_16 ?_
          refine zg_icmp_ne (tgt := 95) dd_245_87 (by decide) (fun q10 => ?_) (fun q10 => ?_)
          · replace h := z_f h q10
            refine zg_iload_n dd_245_95 rfl (j := 3) rfl ?_
            obtain ⟨g11, h⟩ := z_gd h
            refine zg_iast dd_245_96 zMs_14 g11 ?_
            refine zg_iconst dd_245_97 kI_1 ?_
            obtain rfl := Option.some.inj h
            exact zg_iret dd_245_98 rfl
          · replace h := z_t h q10
            refine zg_iload_n dd_245_90 rfl (j := 3) rfl ?_
            refine zg_i2s dd_245_91 ?_
            refine zg_goto (tgt := 96) dd_245_92 (by decide) ?_
            obtain ⟨g12, h⟩ := z_gd h
            refine zg_iast dd_245_96 zMs_14 g12 ?_
            refine zg_iconst dd_245_97 kI_1 ?_
            obtain rfl := Option.some.inj h
            exact zg_iret dd_245_98 rfl
        · replace h := z_t h q9
          refine zg_iload_n dd_245_74 rfl (j := 3) rfl ?_
          refine zg_i2b dd_245_75 ?_
          refine zg_goto (tgt := 96) dd_245_76 (by decide) ?_
          obtain ⟨g13, h⟩ := z_gd h
          refine zg_iast dd_245_96 zMs_14 g13 ?_
          refine zg_iconst dd_245_97 kI_1 ?_
          obtain rfl := Option.some.inj h
          exact zg_iret dd_245_98 rfl
      · replace h := z_t h q8
        refine zg_aload_n dd_245_46 rfl (j := 0) rfl ?_
        refine zg_ldc dd_245_47 zw_1139 ?_
        obtain ⟨r14, e15, h⟩ := z_bd h
        refine zg_invV_i (av := [.inl (-1000001 : Int32)]) (st := []) (n := 1) dd_245_49 ca_142 zw_1140 zw_1142 zv_31 zMs_0 zcl_12 rfl (mt_fm_finding e15) rfl ⟨by decide +kernel, by decide⟩ (Nat.le_of_ble_eq_true rfl) ?_
        obtain rfl := Option.some.inj h
        exact zg_iret dd_245_52 rfl
    · replace h := z_t h q5
      refine zg_aload_n dd_245_23 rfl (j := 0) rfl ?_
      refine zg_ldc dd_245_24 zw_1199 ?_
      obtain ⟨r16, e17, h⟩ := z_bd h
      refine zg_invV_i (av := [.inl (-1000002 : Int32)]) (st := []) (n := 1) dd_245_26 ca_142 zw_1140 zw_1142 zv_31 zMs_0 zcl_12 rfl (mt_fm_finding e17) rfl ⟨by decide +kernel, by decide⟩ (Nat.le_of_ble_eq_true rfl) ?_
      obtain rfl := Option.some.inj h
      exact zg_iret dd_245_29 rfl
  · replace h := z_t h q3
    refine zg_aload_n dd_245_7 rfl (j := 0) rfl ?_
    refine zg_ldc dd_245_8 zw_1139 ?_
    obtain ⟨r18, e19, h⟩ := z_bd h
    refine zg_invV_i (av := [.inl (-1000001 : Int32)]) (st := []) (n := 1) dd_245_10 ca_142 zw_1140 zw_1142 zv_31 zMs_0 zcl_12 rfl (mt_fm_finding e19) rfl ⟨by decide +kernel, by decide⟩ (Nat.le_of_ble_eq_true rfl) ?_
    obtain rfl := Option.some.inj h
    exact zg_iret dd_245_13 rfl
/-! TurnedLandModel.move(0, None, None, None, None, None) -/
def fm_move_L165 : Nat → Int32 → Int32 → Int32 → Int32 → zI → Option (Int32 × zI)
  | 0, _, _, _, _, _ => none
  | nf + 1, v3, v4, v5, v6, I =>
    if v5 ≤ v6 then
      some (v5, I)
    else
      z_guard (zb v6 24) <|
      z_guard (zb ((((24 : Int32) * v3) + v4) + v6) 96) <|
      fm_move_L165 nf v3 v4 v5 (v6 + (1 : Int32)) (zup I 14 ((((24 : Int32) * v3) + v4) + v6).toNatClampNeg (I 15 v6.toNatClampNeg))
def fm_move_L128 : Nat → Int32 → Int32 → Int32 → Int32 → Int32 → Int32 → zI → Option (Int32 × zI)
  | 0, _, _, _, _, _, _, _ => none
  | nf + 1, v1, v2, v3, v4, v5, v6, I =>
    if v5 ≤ v6 then
      fm_move_L165
        100 v3 v4 v5 (0 : Int32) I
    else
      z_guard (zb ((((24 : Int32) * v1) + v2) + v6) 96) <|
      z_guard (zb v6 24) <|
      fm_move_L128 nf v1 v2 v3 v4 v5 (v6 + (1 : Int32)) (zup I 15 v6.toNatClampNeg (I 14 ((((24 : Int32) * v1) + v2) + v6).toNatClampNeg))
def fm_move (I : zI) (a1 : Int32) (a2 : Int32) (a3 : Int32) (a4 : Int32) (a5 : Int32) : Option (Int32 × zI) :=
  (fm_isSheet I a1).bind fun r1 =>
  if r1 = 0 then
    (fm_finding I (-1000001 : Int32)).bind fun r4 =>
    some (r4.1, r4.2)
  else
    (fm_isSheet I a3).bind fun r6 =>
    if r6 = 0 then
      (fm_finding I (-1000001 : Int32)).bind fun r41 =>
      some (r41.1, r41.2)
    else
      z_guard (zb a1 4) <|
      if (I 12 a1.toNatClampNeg) = 0 then
        (fm_finding I (-1000002 : Int32)).bind fun r11 =>
        some (r11.1, r11.2)
      else
        z_guard (zb a3 4) <|
        if (I 12 a3.toNatClampNeg) = 0 then
          (fm_finding I (-1000002 : Int32)).bind fun r39 =>
          some (r39.1, r39.2)
        else
          if (I 12 a1.toNatClampNeg) = (I 12 a3.toNatClampNeg) then
            if a5 < 0 then
              (fm_finding I (-1000001 : Int32)).bind fun r17 =>
              some (r17.1, r17.2)
            else
              if a2 < 0 then
                (fm_finding I (-1000001 : Int32)).bind fun r20 =>
                some (r20.1, r20.2)
              else
                if a4 < 0 then
                  (fm_finding I (-1000001 : Int32)).bind fun r23 =>
                  some (r23.1, r23.2)
                else
                  if 0 < (lg_cmp ((Int32.toInt64 a2) + (Int32.toInt64 a5)) (Int32.toInt64 (I 13 a1.toNatClampNeg))) then
                    (fm_finding I (-1000001 : Int32)).bind fun r26 =>
                    some (r26.1, r26.2)
                  else
                    if (lg_cmp ((Int32.toInt64 a4) + (Int32.toInt64 a5)) (Int32.toInt64 (I 13 a3.toNatClampNeg))) ≤ 0 then
                      fm_move_L128
                        100 a1 a2 a3 a4 a5 (0 : Int32) I
                    else
                      (fm_finding I (-1000001 : Int32)).bind fun r35 =>
                      some (r35.1, r35.2)
          else
            (fm_finding I (-1000005 : Int32)).bind fun r37 =>
            some (r37.1, r37.2)
set_option maxRecDepth 20000 in
theorem lt_fm_move_L165 {res : (Int32 × zI)} : ∀ (nf : Nat) (v3 : Int32) (v4 : Int32) (v5 : Int32) (v6 : Int32) (I : zI), fm_move_L165 nf v3 v4 v5 v6 I = some res → zG 3 ym_246 0 0 (some (.inl res.1)) (zMs, zMr, res.2) zMs.length 165 [(0, .inr (.inr (some 0))), (3, .inl v3), (4, .inl v4), (5, .inl v5), (6, .inl v6)] [] (zMs, zMr, I) 0 0 := by
  intro nf
  induction nf with
  | zero =>
    intro v3 v4 v5 v6 I h
    have h2 : none = some res := h
    cases h2
  | succ nf ih =>
    intro v3 v4 v5 v6 I h
    rw [fm_move_L165] at h
    refine zg_iload dd_246_165 (j := 4) rfl ?_
    refine zg_iload dd_246_167 (j := 3) rfl ?_
    refine zg_icmp_ge (tgt := 200) dd_246_169 (by decide) (fun q30 => ?_) (fun q30 => ?_)
    · replace h := z_t h q30
      refine zg_iload dd_246_200 (j := 3) rfl ?_
      obtain rfl := Option.some.inj h
      exact zg_iret dd_246_202 rfl
    · replace h := z_f h q30
      refine zg_aload_n dd_246_172 rfl (j := 0) rfl ?_
      refine zg_getR dd_246_173 zl_M_56 zMs_0 rfl zMr_0_30 ?_
      refine zg_bipush dd_246_176 kB_24 ?_
      refine zg_iload_n dd_246_178 rfl (j := 1) rfl ?_
      refine zg_imul dd_246_179 ?_
      refine zg_iload dd_246_180 (j := 2) rfl ?_
      refine zg_iadd dd_246_182 ?_
      refine zg_iload dd_246_183 (j := 4) rfl ?_
      refine zg_iadd dd_246_185 ?_
      refine zg_aload_n dd_246_186 rfl (j := 0) rfl ?_
      refine zg_getR dd_246_187 zl_M_59 zMs_0 rfl zMr_0_31 ?_
      refine zg_iload dd_246_190 (j := 4) rfl ?_
      obtain ⟨g31, h⟩ := z_gd h
      refine zg_iald (w := (I 15 v6.toNatClampNeg)) dd_246_192 zMs_15 g31 rfl ?_
      obtain ⟨g32, h⟩ := z_gd h
      refine zg_iast dd_246_193 zMs_14 g32 ?_
      refine zg_iinc dd_246_194 (j := 4) rfl (v := (v6 + (1 : Int32))) (by rw [kI_1]) (Nat.le_of_ble_eq_true rfl) (lv' := [(6, .inl (v6 + (1 : Int32))), (0, .inr (.inr (some 0))), (3, .inl v3), (4, .inl v4), (5, .inl v5)]) rfl ?_
      refine zg_goto (tgt := 165) dd_246_197 (by decide) ?_
      refine zg_sub [1, 2, 3, 4, 0] rfl ?_
      exact ih _ _ _ _ _ h
set_option maxRecDepth 20000 in
theorem lt_fm_move_L128 {res : (Int32 × zI)} : ∀ (nf : Nat) (v1 : Int32) (v2 : Int32) (v3 : Int32) (v4 : Int32) (v5 : Int32) (v6 : Int32) (I : zI), fm_move_L128 nf v1 v2 v3 v4 v5 v6 I = some res → zG 3 ym_246 0 0 (some (.inl res.1)) (zMs, zMr, res.2) zMs.length 128 [(0, .inr (.inr (some 0))), (1, .inl v1), (2, .inl v2), (3, .inl v3), (4, .inl v4), (5, .inl v5), (6, .inl v6)] [] (zMs, zMr, I) 0 0 := by
  intro nf
  induction nf with
  | zero =>
    intro v1 v2 v3 v4 v5 v6 I h
    have h2 : none = some res := h
    cases h2
  | succ nf ih =>
    intro v1 v2 v3 v4 v5 v6 I h
    rw [fm_move_L128] at h
    refine zg_iload dd_246_128 (j := 6) rfl ?_
    refine zg_iload dd_246_130 (j := 5) rfl ?_
    refine zg_icmp_ge (tgt := 162) dd_246_132 (by decide) (fun q29 => ?_) (fun q29 => ?_)
    · replace h := z_t h q29
      refine zg_iconst dd_246_162 kI_0 ?_
      refine zg_istore dd_246_163 (Nat.le_of_ble_eq_true rfl) (lv' := [(6, .inl (0 : Int32)), (0, .inr (.inr (some 0))), (1, .inl v1), (2, .inl v2), (3, .inl v3), (4, .inl v4), (5, .inl v5)]) rfl ?_
      refine zg_sub [1, 4, 5, 6, 0] rfl ?_
      refine lt_fm_move_L165  _ _ _ _ _ _ h
    · replace h := z_f h q29
      refine zg_aload_n dd_246_135 rfl (j := 0) rfl ?_
      refine zg_getR dd_246_136 zl_M_59 zMs_0 rfl zMr_0_31 ?_
      refine zg_iload dd_246_139 (j := 6) rfl ?_
      refine zg_aload_n dd_246_141 rfl (j := 0) rfl ?_
      refine zg_getR dd_246_142 zl_M_56 zMs_0 rfl zMr_0_30 ?_
      refine zg_bipush dd_246_145 kB_24 ?_
      refine zg_iload_n dd_246_147 rfl (j := 1) rfl ?_
      refine zg_imul dd_246_148 ?_
      refine zg_iload_n dd_246_149 rfl (j := 2) rfl ?_
      refine zg_iadd dd_246_150 ?_
      refine zg_iload dd_246_151 (j := 6) rfl ?_
      refine zg_iadd dd_246_153 ?_
      obtain ⟨g33, h⟩ := z_gd h
      refine zg_iald (w := (I 14 ((((24 : Int32) * v1) + v2) + v6).toNatClampNeg)) dd_246_154 zMs_14 g33 rfl ?_
      obtain ⟨g34, h⟩ := z_gd h
      refine zg_iast dd_246_155 zMs_15 g34 ?_
      refine zg_iinc dd_246_156 (j := 6) rfl (v := (v6 + (1 : Int32))) (by rw [kI_1]) (Nat.le_of_ble_eq_true rfl) (lv' := [(6, .inl (v6 + (1 : Int32))), (0, .inr (.inr (some 0))), (1, .inl v1), (2, .inl v2), (3, .inl v3), (4, .inl v4), (5, .inl v5)]) rfl ?_
      refine zg_goto (tgt := 128) dd_246_159 (by decide) ?_
      refine zg_sub [1, 2, 3, 4, 5, 6, 0] rfl ?_
      exact ih _ _ _ _ _ _ _ h
set_option maxRecDepth 20000 in
theorem mt_fm_move {I : zI} {a1 : Int32} {a2 : Int32} {a3 : Int32} {a4 : Int32} {a5 : Int32} {res : (Int32 × zI)} (h : fm_move I a1 a2 a3 a4 a5 = some res) : zM 3 ym_246 [.inr (.inr (some 0)), .inl a1, .inl a2, .inl a3, .inl a4, .inl a5] (zMs, zMr, I) (some (.inl res.1)) (zMs, zMr, res.2) 0 0 := by
  refine zM_of (by decide) (Nat.le_of_ble_eq_true rfl) (lv := [(0, .inr (.inr (some 0))), (1, .inl a1), (2, .inl a2), (3, .inl a3), (4, .inl a4), (5, .inl a5)]) rfl ?_
  rw [fm_move] at h
  refine zg_iload_n dd_246_0 rfl (j := 1) rfl ?_
  obtain ⟨r1, e2, h⟩ := z_bd h
  refine zg_invS_i (av := [.inl a1]) (st := []) (n := 1) dd_246_1 ca_244 zw_1573 zw_1574 (mt_fm_isSheet e2) rfl ⟨by decide +kernel, by decide⟩ (Nat.le_of_ble_eq_true rfl) ?_
  refine zg_if_eq (tgt := 14) dd_246_4 (by decide) (fun q3 => ?_) (fun q3 => ?_)
  · replace h := z_t h q3
    refine zg_aload_n dd_246_14 rfl (j := 0) rfl ?_
    refine zg_ldc dd_246_15 zw_1139 ?_
    obtain ⟨r4, e5, h⟩ := z_bd h
    refine zg_invV_i (av := [.inl (-1000001 : Int32)]) (st := []) (n := 1) dd_246_17 ca_142 zw_1140 zw_1142 zv_31 zMs_0 zcl_12 rfl (mt_fm_finding e5) rfl ⟨by decide +kernel, by decide⟩ (Nat.le_of_ble_eq_true rfl) ?_
    obtain rfl := Option.some.inj h
    exact zg_iret dd_246_20 rfl
  · replace h := z_f h q3
    refine zg_iload_n dd_246_7 rfl (j := 3) rfl ?_
    obtain ⟨r6, e7, h⟩ := z_bd h
    refine zg_invS_i (av := [.inl a3]) (st := []) (n := 1) dd_246_8 ca_244 zw_1573 zw_1574 (mt_fm_isSheet e7) rfl ⟨by decide +kernel, by decide⟩ (Nat.le_of_ble_eq_true rfl) ?_
    refine zg_if_ne (tgt := 21) dd_246_11 (by decide) (fun q8 => ?_) (fun q8 => ?_)
    · replace h := z_f h q8
      refine zg_aload_n dd_246_21 rfl (j := 0) rfl ?_
      refine zg_getR dd_246_22 zl_M_50 zMs_0 rfl zMr_0_28 ?_
      refine zg_iload_n dd_246_25 rfl (j := 1) rfl ?_
      obtain ⟨g9, h⟩ := z_gd h
      refine zg_iald (w := (I 12 a1.toNatClampNeg)) dd_246_26 zMs_12 g9 rfl ?_
      refine zg_if_eq (tgt := 39) dd_246_27 (by decide) (fun q10 => ?_) (fun q10 => ?_)
      · replace h := z_t h q10
        refine zg_aload_n dd_246_39 rfl (j := 0) rfl ?_
        refine zg_ldc dd_246_40 zw_1199 ?_
        obtain ⟨r11, e12, h⟩ := z_bd h
        refine zg_invV_i (av := [.inl (-1000002 : Int32)]) (st := []) (n := 1) dd_246_42 ca_142 zw_1140 zw_1142 zv_31 zMs_0 zcl_12 rfl (mt_fm_finding e12) rfl ⟨by decide +kernel, by decide⟩ (Nat.le_of_ble_eq_true rfl) ?_
        obtain rfl := Option.some.inj h
        exact zg_iret dd_246_45 rfl
      · replace h := z_f h q10
        refine zg_aload_n dd_246_30 rfl (j := 0) rfl ?_
        refine zg_getR dd_246_31 zl_M_50 zMs_0 rfl zMr_0_28 ?_
        refine zg_iload_n dd_246_34 rfl (j := 3) rfl ?_
        obtain ⟨g13, h⟩ := z_gd h
        refine zg_iald (w := (I 12 a3.toNatClampNeg)) dd_246_35 zMs_12 g13 rfl ?_
        refine zg_if_ne (tgt := 46) dd_246_36 (by decide) (fun q14 => ?_) (fun q14 => ?_)
        · replace h := z_f h q14
          refine zg_aload_n dd_246_46 rfl (j := 0) rfl ?_
          refine zg_getR dd_246_47 zl_M_50 zMs_0 rfl zMr_0_28 ?_
          refine zg_iload_n dd_246_50 rfl (j := 1) rfl ?_
          refine zg_iald (w := (I 12 a1.toNatClampNeg)) dd_246_51 zMs_12 g9 rfl ?_
          refine zg_aload_n dd_246_52 rfl (j := 0) rfl ?_
          refine zg_getR dd_246_53 zl_M_50 zMs_0 rfl zMr_0_28 ?_
          refine zg_iload_n dd_246_56 rfl (j := 3) rfl ?_
          refine zg_iald (w := (I 12 a3.toNatClampNeg)) dd_246_57 zMs_12 g13 rfl ?_
          refine zg_icmp_eq (tgt := 69) dd_246_58 (by decide) (fun q15 => ?_) (fun q15 => ?_)
          · replace h := z_t h q15
            refine zg_iload dd_246_69 (j := 5) rfl ?_
            refine zg_if_lt (tgt := 118) dd_246_71 (by decide) (fun q16 => ?_) (fun q16 => ?_)
            · replace h := z_t h q16
              refine zg_aload_n dd_246_118 rfl (j := 0) rfl ?_
              refine zg_ldc dd_246_119 zw_1139 ?_
              obtain ⟨r17, e18, h⟩ := z_bd h
              refine zg_invV_i (av := [.inl (-1000001 : Int32)]) (st := []) (n := 1) dd_246_121 ca_142 zw_1140 zw_1142 zv_31 zMs_0 zcl_12 rfl (mt_fm_finding e18) rfl ⟨by decide +kernel, by decide⟩ (Nat.le_of_ble_eq_true rfl) ?_
              obtain rfl := Option.some.inj h
              exact zg_iret dd_246_124 rfl
            · replace h := z_f h q16
              refine zg_iload_n dd_246_74 rfl (j := 2) rfl ?_
              refine zg_if_lt (tgt := 118) dd_246_75 (by decide) (fun q19 => ?_) (fun q19 => ?_)
              · replace h := z_t h q19
                refine zg_aload_n dd_246_118 rfl (j := 0) rfl ?_
                refine zg_ldc dd_246_119 zw_1139 ?_
                obtain ⟨r20, e21, h⟩ := z_bd h
                refine zg_invV_i (av := [.inl (-1000001 : Int32)]) (st := []) (n := 1) dd_246_121 ca_142 zw_1140 zw_1142 zv_31 zMs_0 zcl_12 rfl (mt_fm_finding e21) rfl ⟨by decide +kernel, by decide⟩ (Nat.le_of_ble_eq_true rfl) ?_
                obtain rfl := Option.some.inj h
                exact zg_iret dd_246_124 rfl
              · replace h := z_f h q19
                refine zg_iload dd_246_78 (j := 4) rfl ?_
                refine zg_if_lt (tgt := 118) dd_246_80 (by decide) (fun q22 => ?_) (fun q22 => ?_)
                · replace h := z_t h q22
                  refine zg_aload_n dd_246_118 rfl (j := 0) rfl ?_
                  refine zg_ldc dd_246_119 zw_1139 ?_
                  obtain ⟨r23, e24, h⟩ := z_bd h
                  refine zg_invV_i (av := [.inl (-1000001 : Int32)]) (st := []) (n := 1) dd_246_121 ca_142 zw_1140 zw_1142 zv_31 zMs_0 zcl_12 rfl (mt_fm_finding e24) rfl ⟨by decide +kernel, by decide⟩ (Nat.le_of_ble_eq_true rfl) ?_
                  obtain rfl := Option.some.inj h
                  exact zg_iret dd_246_124 rfl
                · replace h := z_f h q22
                  refine zg_iload_n dd_246_83 rfl (j := 2) rfl ?_
                  refine zg_i2l dd_246_84 ?_
                  refine zg_iload dd_246_85 (j := 5) rfl ?_
                  refine zg_i2l dd_246_87 ?_
                  refine zg_ladd dd_246_88 ?_
                  refine zg_aload_n dd_246_89 rfl (j := 0) rfl ?_
                  refine zg_getR dd_246_90 zl_M_53 zMs_0 rfl zMr_0_29 ?_
                  refine zg_iload_n dd_246_93 rfl (j := 1) rfl ?_
                  refine zg_iald (w := (I 13 a1.toNatClampNeg)) dd_246_94 zMs_13 g9 rfl ?_
                  refine zg_i2l dd_246_95 ?_
                  refine zg_lcmp dd_246_96 ?_
                  refine zg_if_gt (tgt := 118) dd_246_97 (by decide) (fun q25 => ?_) (fun q25 => ?_)
                  · replace h := z_t h q25
                    refine zg_aload_n dd_246_118 rfl (j := 0) rfl ?_
                    refine zg_ldc dd_246_119 zw_1139 ?_
                    obtain ⟨r26, e27, h⟩ := z_bd h
                    refine zg_invV_i (av := [.inl (-1000001 : Int32)]) (st := []) (n := 1) dd_246_121 ca_142 zw_1140 zw_1142 zv_31 zMs_0 zcl_12 rfl (mt_fm_finding e27) rfl ⟨by decide +kernel, by decide⟩ (Nat.le_of_ble_eq_true rfl) ?_
                    obtain rfl := Option.some.inj h
                    exact zg_iret dd_246_124 rfl
                  · replace h := z_f h q25
                    refine zg_iload dd_246_100 (j := 4) rfl ?_
                    refine zg_i2l dd_246_102 ?_
                    refine zg_iload dd_246_103 (j := 5) rfl ?_
                    refine zg_i2l dd_246_105 ?_
                    refine zg_ladd dd_246_106 ?_
                    refine zg_aload_n dd_246_107 rfl (j := 0) rfl ?_
                    refine zg_getR dd_246_108 zl_M_53 zMs_0 rfl zMr_0_29 ?_
                    refine zg_iload_n dd_246_111 rfl (j := 3) rfl ?_
                    refine zg_iald (w := (I 13 a3.toNatClampNeg)) dd_246_112 zMs_13 g13 rfl ?_
                    refine zg_i2l dd_246_113 ?_
                    refine zg_lcmp dd_246_114 ?_
                    refine zg_if_le (tgt := 125) dd_246_115 (by decide) (fun q28 => ?_) (fun q28 => ?_)
                    · replace h := z_t h q28
                      refine zg_iconst dd_246_125 kI_0 ?_
                      refine zg_istore dd_246_126 (Nat.le_of_ble_eq_true rfl) (lv' := [(6, .inl (0 : Int32)), (0, .inr (.inr (some 0))), (1, .inl a1), (2, .inl a2), (3, .inl a3), (4, .inl a4), (5, .inl a5)]) rfl ?_
                      refine zg_sub [1, 2, 3, 4, 5, 6, 0] rfl ?_
                      refine lt_fm_move_L128  _ _ _ _ _ _ _ _ h
                    · replace h := z_f h q28
                      refine zg_aload_n dd_246_118 rfl (j := 0) rfl ?_
                      refine zg_ldc dd_246_119 zw_1139 ?_
                      obtain ⟨r35, e36, h⟩ := z_bd h
                      refine zg_invV_i (av := [.inl (-1000001 : Int32)]) (st := []) (n := 1) dd_246_121 ca_142 zw_1140 zw_1142 zv_31 zMs_0 zcl_12 rfl (mt_fm_finding e36) rfl ⟨by decide +kernel, by decide⟩ (Nat.le_of_ble_eq_true rfl) ?_
                      obtain rfl := Option.some.inj h
                      exact zg_iret dd_246_124 rfl
          · replace h := z_f h q15
            refine zg_aload_n dd_246_61 rfl (j := 0) rfl ?_
            refine zg_ldcw dd_246_62 zw_1427 ?_
            obtain ⟨r37, e38, h⟩ := z_bd h
            refine zg_invV_i (av := [.inl (-1000005 : Int32)]) (st := []) (n := 1) dd_246_65 ca_142 zw_1140 zw_1142 zv_31 zMs_0 zcl_12 rfl (mt_fm_finding e38) rfl ⟨by decide +kernel, by decide⟩ (Nat.le_of_ble_eq_true rfl) ?_
            obtain rfl := Option.some.inj h
            exact zg_iret dd_246_68 rfl
        · replace h := z_t h q14
          refine zg_aload_n dd_246_39 rfl (j := 0) rfl ?_
          refine zg_ldc dd_246_40 zw_1199 ?_
          obtain ⟨r39, e40, h⟩ := z_bd h
          refine zg_invV_i (av := [.inl (-1000002 : Int32)]) (st := []) (n := 1) dd_246_42 ca_142 zw_1140 zw_1142 zv_31 zMs_0 zcl_12 rfl (mt_fm_finding e40) rfl ⟨by decide +kernel, by decide⟩ (Nat.le_of_ble_eq_true rfl) ?_
          obtain rfl := Option.some.inj h
          exact zg_iret dd_246_45 rfl
    · replace h := z_t h q8
      refine zg_aload_n dd_246_14 rfl (j := 0) rfl ?_
      refine zg_ldc dd_246_15 zw_1139 ?_
      obtain ⟨r41, e42, h⟩ := z_bd h
      refine zg_invV_i (av := [.inl (-1000001 : Int32)]) (st := []) (n := 1) dd_246_17 ca_142 zw_1140 zw_1142 zv_31 zMs_0 zcl_12 rfl (mt_fm_finding e42) rfl ⟨by decide +kernel, by decide⟩ (Nat.le_of_ble_eq_true rfl) ?_
      obtain rfl := Option.some.inj h
      exact zg_iret dd_246_20 rfl
/-! TurnedLandModel.joins(0, None) -/
def fm_joins_L37 : Nat → Int32 → Int32 → Int32 → zI → Option (Int32 × zI)
  | 0, _, _, _, _ => none
  | nf + 1, v1, v2, v3, I =>
    z_guard (zb v1 4) <|
    if (I 13 v1.toNatClampNeg) < (((3 : Int32) * v2) + (3 : Int32)) then
      some (v2, I)
    else
      z_guard (zb v3 96) <|
      z_guard (zb (v3 + (1 : Int32)) 96) <|
      z_guard (zb (v3 + (2 : Int32)) 96) <|
      (fm_whyNot I (I 14 v3.toNatClampNeg) (I 14 (v3 + (1 : Int32)).toNatClampNeg) (I 14 (v3 + (2 : Int32)).toNatClampNeg)).bind fun r11 =>
      if r11 = 0 then
        (fm_joined I (I 14 v3.toNatClampNeg) (I 14 (v3 + (1 : Int32)).toNatClampNeg) (I 14 (v3 + (2 : Int32)).toNatClampNeg)).bind fun r14 =>
        fm_joins_L37 nf v1 (v2 + (1 : Int32)) (v3 + (3 : Int32)) r14.2
      else
        some (v2, I)
def fm_joins (I : zI) (a1 : Int32) : Option (Int32 × zI) :=
  (fm_isSheet I a1).bind fun r1 =>
  if r1 = 0 then
    (fm_finding I (-1000001 : Int32)).bind fun r18 =>
    some (r18.1, r18.2)
  else
    z_guard (zb a1 4) <|
    if (I 12 a1.toNatClampNeg) = 0 then
      (fm_finding I (-1000002 : Int32)).bind fun r16 =>
      some (r16.1, r16.2)
    else
      fm_joins_L37
        100 a1 (0 : Int32) ((24 : Int32) * a1) I
set_option maxRecDepth 20000 in
theorem lt_fm_joins_L37 {res : (Int32 × zI)} : ∀ (nf : Nat) (v1 : Int32) (v2 : Int32) (v3 : Int32) (I : zI), fm_joins_L37 nf v1 v2 v3 I = some res → zG 4 ym_247 0 0 (some (.inl res.1)) (zMs, zMr, res.2) zMs.length 37 [(0, .inr (.inr (some 0))), (1, .inl v1), (2, .inl v2), (3, .inl v3)] [] (zMs, zMr, I) 0 0 := by
  intro nf
  induction nf with
  | zero =>
    intro v1 v2 v3 I h
    have h2 : none = some res := h
    cases h2
  | succ nf ih =>
    intro v1 v2 v3 I h
    rw [fm_joins_L37] at h
    refine zg_iconst dd_247_37 kI_3 ?_
    refine zg_iload_n dd_247_38 rfl (j := 2) rfl ?_
    refine zg_imul dd_247_39 ?_
    refine zg_iconst dd_247_40 kI_3 ?_
    refine zg_iadd dd_247_41 ?_
    refine zg_aload_n dd_247_42 rfl (j := 0) rfl ?_
    refine zg_getR dd_247_43 zl_M_53 zMs_0 rfl zMr_0_29 ?_
    refine zg_iload_n dd_247_46 rfl (j := 1) rfl ?_
    obtain ⟨g6, h⟩ := z_gd h
    refine zg_iald (w := (I 13 v1.toNatClampNeg)) dd_247_47 zMs_13 g6 rfl ?_
    refine zg_icmp_gt (tgt := 119) dd_247_48 (by decide) (fun q7 => ?_) (fun q7 => ?_)
    · replace h := z_t h q7
      refine zg_iload_n dd_247_119 rfl (j := 2) rfl ?_
      obtain rfl := Option.some.inj h
      exact zg_iret dd_247_120 rfl
    · replace h := z_f h q7
      refine zg_aload_n dd_247_51 rfl (j := 0) rfl ?_
      refine zg_aload_n dd_247_52 rfl (j := 0) rfl ?_
      refine zg_getR dd_247_53 zl_M_56 zMs_0 rfl zMr_0_30 ?_
      refine zg_iload_n dd_247_56 rfl (j := 3) rfl ?_
      obtain ⟨g8, h⟩ := z_gd h
      refine zg_iald (w := (I 14 v3.toNatClampNeg)) dd_247_57 zMs_14 g8 rfl ?_
      refine zg_aload_n dd_247_58 rfl (j := 0) rfl ?_
      refine zg_getR dd_247_59 zl_M_56 zMs_0 rfl zMr_0_30 ?_
      refine zg_iload_n dd_247_62 rfl (j := 3) rfl ?_
      refine zg_iconst dd_247_63 kI_1 ?_
      refine zg_iadd dd_247_64 ?_
      obtain ⟨g9, h⟩ := z_gd h
      refine zg_iald (w := (I 14 (v3 + (1 : Int32)).toNatClampNeg)) dd_247_65 zMs_14 g9 rfl ?_
      refine zg_aload_n dd_247_66 rfl (j := 0) rfl ?_
      refine zg_getR dd_247_67 zl_M_56 zMs_0 rfl zMr_0_30 ?_
      refine zg_iload_n dd_247_70 rfl (j := 3) rfl ?_
      refine zg_iconst dd_247_71 kI_2 ?_
      refine zg_iadd dd_247_72 ?_
      obtain ⟨g10, h⟩ := z_gd h
      refine zg_iald (w := (I 14 (v3 + (2 : Int32)).toNatClampNeg)) dd_247_73 zMs_14 g10 rfl ?_
      obtain ⟨r11, e12, h⟩ := z_bd h
      refine zg_invV_i (av := [.inl (I 14 v3.toNatClampNeg), .inl (I 14 (v3 + (1 : Int32)).toNatClampNeg), .inl (I 14 (v3 + (2 : Int32)).toNatClampNeg)]) (st := []) (n := 3) dd_247_74 ca_147 zw_1162 zw_1164 zv_34 zMs_0 zcl_12 rfl (mt_fm_whyNot e12) rfl ⟨by decide +kernel, by decide⟩ (Nat.le_of_ble_eq_true rfl) ?_
      refine zg_if_eq (tgt := 82) dd_247_77 (by decide) (fun q13 => ?_) (fun q13 => ?_)
      · replace h := z_t h q13
        refine zg_aload_n dd_247_82 rfl (j := 0) rfl ?_
        refine zg_aload_n dd_247_83 rfl (j := 0) rfl ?_
        refine zg_getR dd_247_84 zl_M_56 zMs_0 rfl zMr_0_30 ?_
        refine zg_iload_n dd_247_87 rfl (j := 3) rfl ?_
        refine zg_iald (w := (I 14 v3.toNatClampNeg)) dd_247_88 zMs_14 g8 rfl ?_
        refine zg_aload_n dd_247_89 rfl (j := 0) rfl ?_
        refine zg_getR dd_247_90 zl_M_56 zMs_0 rfl zMr_0_30 ?_
        refine zg_iload_n dd_247_93 rfl (j := 3) rfl ?_
        refine zg_iconst dd_247_94 kI_1 ?_
        refine zg_iadd dd_247_95 ?_
        refine zg_iald (w := (I 14 (v3 + (1 : Int32)).toNatClampNeg)) dd_247_96 zMs_14 g9 rfl ?_
        refine zg_aload_n dd_247_97 rfl (j := 0) rfl ?_
        refine zg_getR dd_247_98 zl_M_56 zMs_0 rfl zMr_0_30 ?_
        refine zg_iload_n dd_247_101 rfl (j := 3) rfl ?_
        refine zg_iconst dd_247_102 kI_2 ?_
        refine zg_iadd dd_247_103 ?_
        refine zg_iald (w := (I 14 (v3 + (2 : Int32)).toNatClampNeg)) dd_247_104 zMs_14 g10 rfl ?_
        obtain ⟨r14, e15, h⟩ := z_bd h
        refine zg_invV_i (av := [.inl (I 14 v3.toNatClampNeg), .inl (I 14 (v3 + (1 : Int32)).toNatClampNeg), .inl (I 14 (v3 + (2 : Int32)).toNatClampNeg)]) (st := []) (n := 3) dd_247_105 ca_151 zw_1179 zw_1181 zv_38 zMs_0 zcl_12 rfl (mt_fm_joined e15) rfl ⟨by decide +kernel, by decide⟩ (Nat.le_of_ble_eq_true rfl) ?_
        refine zg_istore dd_247_108 (Nat.le_of_ble_eq_true rfl) (lv' := [(4, .inl r14.1), (0, .inr (.inr (some 0))), (1, .inl v1), (2, .inl v2), (3, .inl v3)]) rfl ?_
        refine zg_iinc dd_247_110 (j := 3) rfl (v := (v2 + (1 : Int32))) (by rw [kI_1]) (Nat.le_of_ble_eq_true rfl) (lv' := [(2, .inl (v2 + (1 : Int32))), (4, .inl r14.1), (0, .inr (.inr (some 0))), (1, .inl v1), (3, .inl v3)]) rfl ?_
        refine zg_iinc dd_247_113 (j := 4) rfl (v := (v3 + (3 : Int32))) (by rw [kI_3]) (Nat.le_of_ble_eq_true rfl) (lv' := [(3, .inl (v3 + (3 : Int32))), (2, .inl (v2 + (1 : Int32))), (4, .inl r14.1), (0, .inr (.inr (some 0))), (1, .inl v1)]) rfl ?_
        refine zg_goto (tgt := 37) dd_247_116 (by decide) ?_
        refine zg_sub [3, 4, 1, 0] rfl ?_
        exact ih _ _ _ _ h
      · replace h := z_f h q13
        refine zg_iload_n dd_247_80 rfl (j := 2) rfl ?_
        obtain rfl := Option.some.inj h
        exact zg_iret dd_247_81 rfl
set_option maxRecDepth 20000 in
theorem mt_fm_joins {I : zI} {a1 : Int32} {res : (Int32 × zI)} (h : fm_joins I a1 = some res) : zM 4 ym_247 [.inr (.inr (some 0)), .inl a1] (zMs, zMr, I) (some (.inl res.1)) (zMs, zMr, res.2) 0 0 := by
  refine zM_of (by decide) (Nat.le_of_ble_eq_true rfl) (lv := [(0, .inr (.inr (some 0))), (1, .inl a1)]) rfl ?_
  rw [fm_joins] at h
  refine zg_iload_n dd_247_0 rfl (j := 1) rfl ?_
  obtain ⟨r1, e2, h⟩ := z_bd h
  refine zg_invS_i (av := [.inl a1]) (st := []) (n := 1) dd_247_1 ca_244 zw_1573 zw_1574 (mt_fm_isSheet e2) rfl ⟨by decide +kernel, by decide⟩ (Nat.le_of_ble_eq_true rfl) ?_
  refine zg_if_ne (tgt := 14) dd_247_4 (by decide) (fun q3 => ?_) (fun q3 => ?_)
  · replace h := z_f h q3
    refine zg_aload_n dd_247_14 rfl (j := 0) rfl ?_
    refine zg_getR dd_247_15 zl_M_50 zMs_0 rfl zMr_0_28 ?_
    refine zg_iload_n dd_247_18 rfl (j := 1) rfl ?_
    obtain ⟨g4, h⟩ := z_gd h
    refine zg_iald (w := (I 12 a1.toNatClampNeg)) dd_247_19 zMs_12 g4 rfl ?_
    refine zg_if_ne (tgt := 30) dd_247_20 (by decide) (fun q5 => ?_) (fun q5 => ?_)
    · replace h := z_f h q5
      refine zg_iconst dd_247_30 kI_0 ?_
      refine zg_istore_n dd_247_31 rfl (Nat.le_of_ble_eq_true rfl) (lv' := [(2, .inl (0 : Int32)), (0, .inr (.inr (some 0))), (1, .inl a1)]) rfl ?_
      refine zg_bipush dd_247_32 kB_24 ?_
      refine zg_iload_n dd_247_34 rfl (j := 2) rfl ?_
      refine zg_imul dd_247_35 ?_
      refine zg_istore_n dd_247_36 rfl (Nat.le_of_ble_eq_true rfl) (lv' := [(3, .inl ((24 : Int32) * a1)), (2, .inl (0 : Int32)), (0, .inr (.inr (some 0))), (1, .inl a1)]) rfl ?_
      refine zg_sub [2, 3, 1, 0] rfl ?_
      refine lt_fm_joins_L37  _ _ _ _ _ h
    · replace h := z_t h q5
      refine zg_aload_n dd_247_23 rfl (j := 0) rfl ?_
      refine zg_ldc dd_247_24 zw_1199 ?_
      obtain ⟨r16, e17, h⟩ := z_bd h
      refine zg_invV_i (av := [.inl (-1000002 : Int32)]) (st := []) (n := 1) dd_247_26 ca_142 zw_1140 zw_1142 zv_31 zMs_0 zcl_12 rfl (mt_fm_finding e17) rfl ⟨by decide +kernel, by decide⟩ (Nat.le_of_ble_eq_true rfl) ?_
      obtain rfl := Option.some.inj h
      exact zg_iret dd_247_29 rfl
  · replace h := z_t h q3
    refine zg_aload_n dd_247_7 rfl (j := 0) rfl ?_
    refine zg_ldc dd_247_8 zw_1139 ?_
    obtain ⟨r18, e19, h⟩ := z_bd h
    refine zg_invV_i (av := [.inl (-1000001 : Int32)]) (st := []) (n := 1) dd_247_10 ca_142 zw_1140 zw_1142 zv_31 zMs_0 zcl_12 rfl (mt_fm_finding e19) rfl ⟨by decide +kernel, by decide⟩ (Nat.le_of_ble_eq_true rfl) ?_
    obtain rfl := Option.some.inj h
    exact zg_iret dd_247_13 rfl
/-! TurnedLandModel.copy[1, 2] -/
def fm_copy_L2 : Nat → Int32 → zI → Option zI
  | 0, _, _ => none
  | nf + 1, v2, I =>
    if (448 : Int32) ≤ v2 then
      some I
    else
      z_guard (zb v2 448) <|
      fm_copy_L2 nf (v2 + (1 : Int32)) (zup I 2 v2.toNatClampNeg (I 1 v2.toNatClampNeg))
def fm_copy (I : zI) : Option zI :=
  fm_copy_L2
    500 (0 : Int32) I
set_option maxRecDepth 20000 in
theorem lt_fm_copy_L2 {res : zI} : ∀ (nf : Nat) (v2 : Int32) (I : zI), fm_copy_L2 nf v2 I = some res → zG 1 ym_249 0 0 none (zMs, zMr, res) zMs.length 2 [(0, .inr (.inr (some 1))), (1, .inr (.inr (some 2))), (2, .inl v2)] [] (zMs, zMr, I) 0 0 := by
  intro nf
  induction nf with
  | zero =>
    intro v2 I h
    have h2 : none = some res := h
    cases h2
  | succ nf ih =>
    intro v2 I h
    rw [fm_copy_L2] at h
    refine zg_iload_n dd_249_2 rfl (j := 2) rfl ?_
    refine zg_sipush dd_249_3 kS_448 ?_
    refine zg_icmp_ge (tgt := 21) dd_249_6 (by decide) (fun q1 => ?_) (fun q1 => ?_)
    · replace h := z_t h q1
      obtain rfl := Option.some.inj h
      exact zg_vret dd_249_21 rfl
    · replace h := z_f h q1
      refine zg_aload_n dd_249_9 rfl (j := 1) rfl ?_
      refine zg_iload_n dd_249_10 rfl (j := 2) rfl ?_
      refine zg_aload_n dd_249_11 rfl (j := 0) rfl ?_
      refine zg_iload_n dd_249_12 rfl (j := 2) rfl ?_
      obtain ⟨g2, h⟩ := z_gd h
      refine zg_iald (w := (I 1 v2.toNatClampNeg)) dd_249_13 zMs_1 g2 rfl ?_
      refine zg_iast dd_249_14 zMs_2 g2 ?_
      refine zg_iinc dd_249_15 (j := 2) rfl (v := (v2 + (1 : Int32))) (by rw [kI_1]) (Nat.le_of_ble_eq_true rfl) (lv' := [(2, .inl (v2 + (1 : Int32))), (0, .inr (.inr (some 1))), (1, .inr (.inr (some 2)))]) rfl ?_
      refine zg_goto (tgt := 2) dd_249_18 (by decide) ?_
      refine zg_sub [1, 2, 0] rfl ?_
      exact ih _ _ h
set_option maxRecDepth 20000 in
theorem mt_fm_copy {I : zI} {res : zI} (h : fm_copy I = some res) : zM 1 ym_249 [.inr (.inr (some 1)), .inr (.inr (some 2))] (zMs, zMr, I) none (zMs, zMr, res) 0 0 := by
  refine zM_of (by decide) (Nat.le_of_ble_eq_true rfl) (lv := [(0, .inr (.inr (some 1))), (1, .inr (.inr (some 2)))]) rfl ?_
  rw [fm_copy] at h
  refine zg_iconst dd_249_0 kI_0 ?_
  refine zg_istore_n dd_249_1 rfl (Nat.le_of_ble_eq_true rfl) (lv' := [(2, .inl (0 : Int32)), (0, .inr (.inr (some 1))), (1, .inr (.inr (some 2)))]) rfl ?_
  refine zg_sub [1, 2, 0] rfl ?_
  refine lt_fm_copy_L2  _ _ _ h
/-! TurnedLandModel.image(0,) -/
def fm_image (I : zI) : Option (Int32 × zI) :=
  (fm_copy I).bind fun r1 =>
  some (((r1 0 2) + (1 : Int32)), (zup r1 0 2 ((r1 0 2) + (1 : Int32))))
set_option maxRecDepth 20000 in
theorem mt_fm_image {I : zI} {res : (Int32 × zI)} (h : fm_image I = some res) : zM 2 ym_248 [.inr (.inr (some 0))] (zMs, zMr, I) (some (.inl res.1)) (zMs, zMr, res.2) 0 0 := by
  refine zM_of (by decide) (Nat.le_of_ble_eq_true rfl) (lv := [(0, .inr (.inr (some 0)))]) rfl ?_
  rw [fm_image] at h
  refine zg_aload_n dd_248_0 rfl (j := 0) rfl ?_
  refine zg_getR dd_248_1 zl_M_9 zMs_0 rfl zMr_0_0 ?_
  refine zg_aload_n dd_248_4 rfl (j := 0) rfl ?_
  refine zg_getR dd_248_5 zl_M_13 zMs_0 rfl zMr_0_1 ?_
  obtain ⟨r1, e2, h⟩ := z_bd h
  refine zg_invS_v (av := [.inr (.inr (some 1)), .inr (.inr (some 2))]) (st := []) (n := 2) dd_248_8 ca_249 zw_1592 zw_1593 (mt_fm_copy e2) rfl ⟨by decide +kernel, by decide⟩ (Nat.le_of_ble_eq_true rfl) ?_
  refine zg_aload_n dd_248_11 rfl (j := 0) rfl ?_
  refine zg_dup dd_248_12 rfl ?_
  refine zg_getI (x := (r1 0 2)) dd_248_13 zl_M_331 zMs_0 rfl rfl ?_
  refine zg_iconst dd_248_16 kI_1 ?_
  refine zg_iadd dd_248_17 ?_
  refine zg_putI dd_248_18 zp_M_331 zMs_0 rfl (zSt_int _) ?_
  refine zg_aload_n dd_248_21 rfl (j := 0) rfl ?_
  refine zg_getI (x := ((r1 0 2) + (1 : Int32))) dd_248_22 zl_M_331 zMs_0 rfl rfl ?_
  obtain rfl := Option.some.inj h
  exact zg_iret dd_248_25 rfl
/-! TurnedLandModel.copy[2, 1] -/
def fm_copy_2_L2 : Nat → Int32 → zI → Option zI
  | 0, _, _ => none
  | nf + 1, v2, I =>
    if (448 : Int32) ≤ v2 then
      some I
    else
      z_guard (zb v2 448) <|
      fm_copy_2_L2 nf (v2 + (1 : Int32)) (zup I 1 v2.toNatClampNeg (I 2 v2.toNatClampNeg))
def fm_copy_2 (I : zI) : Option zI :=
  fm_copy_2_L2
    500 (0 : Int32) I
set_option maxRecDepth 20000 in
theorem lt_fm_copy_2_L2 {res : zI} : ∀ (nf : Nat) (v2 : Int32) (I : zI), fm_copy_2_L2 nf v2 I = some res → zG 1 ym_249 0 0 none (zMs, zMr, res) zMs.length 2 [(0, .inr (.inr (some 2))), (1, .inr (.inr (some 1))), (2, .inl v2)] [] (zMs, zMr, I) 0 0 := by
  intro nf
  induction nf with
  | zero =>
    intro v2 I h
    have h2 : none = some res := h
    cases h2
  | succ nf ih =>
    intro v2 I h
    rw [fm_copy_2_L2] at h
    refine zg_iload_n dd_249_2 rfl (j := 2) rfl ?_
    refine zg_sipush dd_249_3 kS_448 ?_
    refine zg_icmp_ge (tgt := 21) dd_249_6 (by decide) (fun q1 => ?_) (fun q1 => ?_)
    · replace h := z_t h q1
      obtain rfl := Option.some.inj h
      exact zg_vret dd_249_21 rfl
    · replace h := z_f h q1
      refine zg_aload_n dd_249_9 rfl (j := 1) rfl ?_
      refine zg_iload_n dd_249_10 rfl (j := 2) rfl ?_
      refine zg_aload_n dd_249_11 rfl (j := 0) rfl ?_
      refine zg_iload_n dd_249_12 rfl (j := 2) rfl ?_
      obtain ⟨g2, h⟩ := z_gd h
      refine zg_iald (w := (I 2 v2.toNatClampNeg)) dd_249_13 zMs_2 g2 rfl ?_
      refine zg_iast dd_249_14 zMs_1 g2 ?_
      refine zg_iinc dd_249_15 (j := 2) rfl (v := (v2 + (1 : Int32))) (by rw [kI_1]) (Nat.le_of_ble_eq_true rfl) (lv' := [(2, .inl (v2 + (1 : Int32))), (0, .inr (.inr (some 2))), (1, .inr (.inr (some 1)))]) rfl ?_
      refine zg_goto (tgt := 2) dd_249_18 (by decide) ?_
      refine zg_sub [1, 2, 0] rfl ?_
      exact ih _ _ h
set_option maxRecDepth 20000 in
theorem mt_fm_copy_2 {I : zI} {res : zI} (h : fm_copy_2 I = some res) : zM 1 ym_249 [.inr (.inr (some 2)), .inr (.inr (some 1))] (zMs, zMr, I) none (zMs, zMr, res) 0 0 := by
  refine zM_of (by decide) (Nat.le_of_ble_eq_true rfl) (lv := [(0, .inr (.inr (some 2))), (1, .inr (.inr (some 1)))]) rfl ?_
  rw [fm_copy_2] at h
  refine zg_iconst dd_249_0 kI_0 ?_
  refine zg_istore_n dd_249_1 rfl (Nat.le_of_ble_eq_true rfl) (lv' := [(2, .inl (0 : Int32)), (0, .inr (.inr (some 2))), (1, .inr (.inr (some 1)))]) rfl ?_
  refine zg_sub [1, 2, 0] rfl ?_
  refine lt_fm_copy_2_L2  _ _ _ h
/-! TurnedLandModel.restore(0,) -/
def fm_restore (I : zI) : Option (Int32 × zI) :=
  if (I 0 2) = 0 then
    (fm_finding I (-1000002 : Int32)).bind fun r4 =>
    some (r4.1, r4.2)
  else
    (fm_copy_2 I).bind fun r2 =>
    some ((r2 1 (0 : Int32).toNatClampNeg), r2)
set_option maxRecDepth 20000 in
theorem mt_fm_restore {I : zI} {res : (Int32 × zI)} (h : fm_restore I = some res) : zM 2 ym_250 [.inr (.inr (some 0))] (zMs, zMr, I) (some (.inl res.1)) (zMs, zMr, res.2) 0 0 := by
  refine zM_of (by decide) (Nat.le_of_ble_eq_true rfl) (lv := [(0, .inr (.inr (some 0)))]) rfl ?_
  rw [fm_restore] at h
  refine zg_aload_n dd_250_0 rfl (j := 0) rfl ?_
  refine zg_getI (x := (I 0 2)) dd_250_1 zl_M_331 zMs_0 rfl rfl ?_
  refine zg_if_ne (tgt := 14) dd_250_4 (by decide) (fun q1 => ?_) (fun q1 => ?_)
  · replace h := z_f h q1
    refine zg_aload_n dd_250_14 rfl (j := 0) rfl ?_
    refine zg_getR dd_250_15 zl_M_13 zMs_0 rfl zMr_0_1 ?_
    refine zg_aload_n dd_250_18 rfl (j := 0) rfl ?_
    refine zg_getR dd_250_19 zl_M_9 zMs_0 rfl zMr_0_0 ?_
    obtain ⟨r2, e3, h⟩ := z_bd h
    refine zg_invS_v (av := [.inr (.inr (some 2)), .inr (.inr (some 1))]) (st := []) (n := 2) dd_250_22 ca_249 zw_1592 zw_1593 (mt_fm_copy_2 e3) rfl ⟨by decide +kernel, by decide⟩ (Nat.le_of_ble_eq_true rfl) ?_
    refine zg_aload_n dd_250_25 rfl (j := 0) rfl ?_
    refine zg_getR dd_250_26 zl_M_9 zMs_0 rfl zMr_0_0 ?_
    refine zg_iconst dd_250_29 kI_0 ?_
    refine zg_iald (w := (r2 1 (0 : Int32).toNatClampNeg)) dd_250_30 zMs_1 (by decide) rfl ?_
    obtain rfl := Option.some.inj h
    exact zg_iret dd_250_31 rfl
  · replace h := z_t h q1
    refine zg_aload_n dd_250_7 rfl (j := 0) rfl ?_
    refine zg_ldc dd_250_8 zw_1199 ?_
    obtain ⟨r4, e5, h⟩ := z_bd h
    refine zg_invV_i (av := [.inl (-1000002 : Int32)]) (st := []) (n := 1) dd_250_10 ca_142 zw_1140 zw_1142 zv_31 zMs_0 zcl_12 rfl (mt_fm_finding e5) rfl ⟨by decide +kernel, by decide⟩ (Nat.le_of_ble_eq_true rfl) ?_
    obtain rfl := Option.some.inj h
    exact zg_iret dd_250_13 rfl
/-! TurnedLandModel.tell(0, None) -/
def fm_tell (I : zI) (a1 : Int32) : Option (Int32 × zI) :=
  if (I 1 (7 : Int32).toNatClampNeg) = (24 : Int32) then
    (fm_finding I (-1000004 : Int32)).bind fun r3 =>
    some (r3.1, r3.2)
  else
    z_guard (zb ((300 : Int32) + (I 1 (7 : Int32).toNatClampNeg)) 448) <|
    some ((((zup I 1 ((300 : Int32) + (I 1 (7 : Int32).toNatClampNeg)).toNatClampNeg a1) 1 (7 : Int32).toNatClampNeg) + (1 : Int32)), (zup (zup I 1 ((300 : Int32) + (I 1 (7 : Int32).toNatClampNeg)).toNatClampNeg a1) 1 (7 : Int32).toNatClampNeg (((zup I 1 ((300 : Int32) + (I 1 (7 : Int32).toNatClampNeg)).toNatClampNeg a1) 1 (7 : Int32).toNatClampNeg) + (1 : Int32))))
set_option maxRecDepth 20000 in
theorem mt_fm_tell {I : zI} {a1 : Int32} {res : (Int32 × zI)} (h : fm_tell I a1 = some res) : zM 2 ym_251 [.inr (.inr (some 0)), .inl a1] (zMs, zMr, I) (some (.inl res.1)) (zMs, zMr, res.2) 0 0 := by
  refine zM_of (by decide) (Nat.le_of_ble_eq_true rfl) (lv := [(0, .inr (.inr (some 0))), (1, .inl a1)]) rfl ?_
  rw [fm_tell] at h
  refine zg_aload_n dd_251_0 rfl (j := 0) rfl ?_
  refine zg_getR dd_251_1 zl_M_9 zMs_0 rfl zMr_0_0 ?_
  refine zg_bipush dd_251_4 kB_7 ?_
  refine zg_iald (w := (I 1 (7 : Int32).toNatClampNeg)) dd_251_6 zMs_1 (by decide) rfl ?_
  refine zg_bipush dd_251_7 kB_24 ?_
  refine zg_icmp_ne (tgt := 19) dd_251_9 (by decide) (fun q1 => ?_) (fun q1 => ?_)
  · replace h := z_f h q1
    refine zg_aload_n dd_251_19 rfl (j := 0) rfl ?_
    refine zg_getR dd_251_20 zl_M_9 zMs_0 rfl zMr_0_0 ?_
    refine zg_sipush dd_251_23 kS_300 ?_
    refine zg_aload_n dd_251_26 rfl (j := 0) rfl ?_
    refine zg_getR dd_251_27 zl_M_9 zMs_0 rfl zMr_0_0 ?_
    refine zg_bipush dd_251_30 kB_7 ?_
    refine zg_iald (w := (I 1 (7 : Int32).toNatClampNeg)) dd_251_32 zMs_1 (by decide) rfl ?_
    refine zg_iadd dd_251_33 ?_
    refine zg_iload_n dd_251_34 rfl (j := 1) rfl ?_
    obtain ⟨g2, h⟩ := z_gd h
    refine zg_iast dd_251_35 zMs_1 g2 ?_
    refine zg_aload_n dd_251_36 rfl (j := 0) rfl ?_
    refine zg_getR dd_251_37 zl_M_9 zMs_0 rfl zMr_0_0 ?_
    refine zg_bipush dd_251_40 kB_7 ?_
    refine zg_dup2 dd_251_42 rfl rfl ?_
    refine zg_iald (w := ((zup I 1 ((300 : Int32) + (I 1 (7 : Int32).toNatClampNeg)).toNatClampNeg a1) 1 (7 : Int32).toNatClampNeg)) dd_251_43 zMs_1 (by decide) rfl ?_
    refine zg_iconst dd_251_44 kI_1 ?_
    refine zg_iadd dd_251_45 ?_
    refine zg_iast dd_251_46 zMs_1 (by decide) ?_
    refine zg_aload_n dd_251_47 rfl (j := 0) rfl ?_
    refine zg_getR dd_251_48 zl_M_9 zMs_0 rfl zMr_0_0 ?_
    refine zg_bipush dd_251_51 kB_7 ?_
    refine zg_iald (w := (((zup I 1 ((300 : Int32) + (I 1 (7 : Int32).toNatClampNeg)).toNatClampNeg a1) 1 (7 : Int32).toNatClampNeg) + (1 : Int32))) dd_251_53 zMs_1 (by decide) (by simp [zup]) ?_
    obtain rfl := Option.some.inj h
    exact zg_iret dd_251_54 rfl
  · replace h := z_t h q1
    refine zg_aload_n dd_251_12 rfl (j := 0) rfl ?_
    refine zg_ldc dd_251_13 zw_1145 ?_
    obtain ⟨r3, e4, h⟩ := z_bd h
    refine zg_invV_i (av := [.inl (-1000004 : Int32)]) (st := []) (n := 1) dd_251_15 ca_142 zw_1140 zw_1142 zv_31 zMs_0 zcl_12 rfl (mt_fm_finding e4) rfl ⟨by decide +kernel, by decide⟩ (Nat.le_of_ble_eq_true rfl) ?_
    obtain rfl := Option.some.inj h
    exact zg_iret dd_251_18 rfl
/-! TurnedLandModel.check(0, None) -/
def fm_check_L70 : Nat → Int32 → Int32 → Int32 → Int32 → Int32 → zI → Option (Int32 × zI)
  | 0, _, _, _, _, _, _ => none
  | nf + 1, v1, v2, v3, v4, v5, I =>
    if v4 ≤ v5 then
      if v2 = v4 then
        some ((0 : Int32), I)
      else
        some (((1 : Int32) + v4), I)
    else
      if v2 ≤ v5 then
        some (((1 : Int32) + v5), I)
      else
        z_guard (zb ((300 : Int32) + v5) 448) <|
        if (I 1 ((300 : Int32) + v5).toNatClampNeg) = v3 then
          if (v4 - (1 : Int32)) ≤ v5 then
            fm_check_L70 nf v1 v2 v3 v4 (v5 + (1 : Int32)) I
          else
            (fm_walkOf I v1 ((4 : Int32) + v5)).bind fun r17 =>
            (fm_crosses I v3 r17).bind fun r19 =>
            if r19.1 = 0 then
              fm_check_L70 nf v1 v2 v3 v4 (v5 + (1 : Int32)) r19.2
            else
              fm_check_L70 nf v1 v2 (r19.2 0 14) v4 (v5 + (1 : Int32)) r19.2
        else
          some (((1 : Int32) + v5), I)
def fm_check (I : zI) (a1 : Int32) : Option (Int32 × zI) :=
  (fm_is (zup I 1 (7 : Int32).toNatClampNeg (0 : Int32)) a1 (2 : Int32)).bind fun r1 =>
  if r1 = 0 then
    (fm_finding (zup I 1 (7 : Int32).toNatClampNeg (0 : Int32)) (-1000001 : Int32)).bind fun r24 =>
    some (r24.1, r24.2)
  else
    (fm_goes (zup I 1 (7 : Int32).toNatClampNeg (0 : Int32)) a1 (0 : Int32)).bind fun r4 =>
    if r4.1 = 0 then
      (fm_finding r4.2 (-1000003 : Int32)).bind fun r22 =>
      some (r22.1, r22.2)
    else
      (fm_walkOf r4.2 a1 (1 : Int32)).bind fun r7 =>
      (fm_walkOf r4.2 a1 (2 : Int32)).bind fun r9 =>
      fm_check_L70
        100 a1 (I 1 (7 : Int32).toNatClampNeg) ((2 : Int32) * r7) ((1 : Int32) + r9) (0 : Int32) r4.2
set_option maxRecDepth 20000 in
theorem lt_fm_check_L70 {res : (Int32 × zI)} : ∀ (nf : Nat) (v1 : Int32) (v2 : Int32) (v3 : Int32) (v4 : Int32) (v5 : Int32) (I : zI), fm_check_L70 nf v1 v2 v3 v4 v5 I = some res → zG 6 ym_252 0 0 (some (.inl res.1)) (zMs, zMr, res.2) zMs.length 70 [(0, .inr (.inr (some 0))), (1, .inl v1), (2, .inl v2), (3, .inl v3), (4, .inl v4), (5, .inl v5)] [] (zMs, zMr, I) 0 0 := by
  intro nf
  induction nf with
  | zero =>
    intro v1 v2 v3 v4 v5 I h
    have h2 : none = some res := h
    cases h2
  | succ nf ih =>
    intro v1 v2 v3 v4 v5 I h
    rw [fm_check_L70] at h
    refine zg_iload dd_252_70 (j := 5) rfl ?_
    refine zg_iload dd_252_72 (j := 4) rfl ?_
    refine zg_icmp_ge (tgt := 140) dd_252_74 (by decide) (fun q11 => ?_) (fun q11 => ?_)
    · replace h := z_t h q11
      refine zg_iload_n dd_252_140 rfl (j := 2) rfl ?_
      refine zg_iload dd_252_141 (j := 4) rfl ?_
      refine zg_icmp_ne (tgt := 150) dd_252_143 (by decide) (fun q12 => ?_) (fun q12 => ?_)
      · replace h := z_f h q12
        refine zg_iconst dd_252_150 kI_1 ?_
        refine zg_iload dd_252_151 (j := 4) rfl ?_
        refine zg_iadd dd_252_153 ?_
        obtain rfl := Option.some.inj h
        exact zg_iret dd_252_154 rfl
      · replace h := z_t h q12
        refine zg_iconst dd_252_146 kI_0 ?_
        refine zg_goto (tgt := 154) dd_252_147 (by decide) ?_
        obtain rfl := Option.some.inj h
        exact zg_iret dd_252_154 rfl
    · replace h := z_f h q11
      refine zg_iload dd_252_77 (j := 5) rfl ?_
      refine zg_iload_n dd_252_79 rfl (j := 2) rfl ?_
      refine zg_icmp_ge (tgt := 98) dd_252_80 (by decide) (fun q13 => ?_) (fun q13 => ?_)
      · replace h := z_t h q13
        refine zg_iconst dd_252_98 kI_1 ?_
        refine zg_iload dd_252_99 (j := 5) rfl ?_
        refine zg_iadd dd_252_101 ?_
        obtain rfl := Option.some.inj h
        exact zg_iret dd_252_102 rfl
      · replace h := z_f h q13
        refine zg_aload_n dd_252_83 rfl (j := 0) rfl ?_
        refine zg_getR dd_252_84 zl_M_9 zMs_0 rfl zMr_0_0 ?_
        refine zg_sipush dd_252_87 kS_300 ?_
        refine zg_iload dd_252_90 (j := 5) rfl ?_
        refine zg_iadd dd_252_92 ?_
        obtain ⟨g14, h⟩ := z_gd h
        refine zg_iald (w := (I 1 ((300 : Int32) + v5).toNatClampNeg)) dd_252_93 zMs_1 g14 rfl ?_
        refine zg_iload_n dd_252_94 rfl (j := 3) rfl ?_
        refine zg_icmp_eq (tgt := 103) dd_252_95 (by decide) (fun q15 => ?_) (fun q15 => ?_)
        · replace h := z_t h q15
          refine zg_iload dd_252_103 (j := 5) rfl ?_
          refine zg_iload dd_252_105 (j := 4) rfl ?_
          refine zg_iconst dd_252_107 kI_1 ?_
          refine zg_isub dd_252_108 ?_
          refine zg_icmp_ge (tgt := 134) dd_252_109 (by decide) (fun q16 => ?_) (fun q16 => ?_)
          · replace h := z_t h q16
            refine zg_iinc dd_252_134 (j := 5) rfl (v := (v5 + (1 : Int32))) (by rw [kI_1]) (Nat.le_of_ble_eq_true rfl) (lv' := [(5, .inl (v5 + (1 : Int32))), (0, .inr (.inr (some 0))), (1, .inl v1), (2, .inl v2), (3, .inl v3), (4, .inl v4)]) rfl ?_
            refine zg_goto (tgt := 70) dd_252_137 (by decide) ?_
            refine zg_sub [1, 2, 3, 4, 5, 0] rfl ?_
            exact ih _ _ _ _ _ _ h
          · replace h := z_f h q16
            refine zg_aload_n dd_252_112 rfl (j := 0) rfl ?_
            refine zg_iload_n dd_252_113 rfl (j := 3) rfl ?_
            refine zg_aload_n dd_252_114 rfl (j := 0) rfl ?_
            refine zg_iload_n dd_252_115 rfl (j := 1) rfl ?_
            refine zg_iconst dd_252_116 kI_4 ?_
            refine zg_iload dd_252_117 (j := 5) rfl ?_
            refine zg_iadd dd_252_119 ?_
            obtain ⟨r17, e18, h⟩ := z_bd h
            refine zg_invV_i (av := [.inl v1, .inl ((4 : Int32) + v5)]) (st := [.inl v3, .inr (.inr (some 0))]) (n := 2) dd_252_120 ca_205 zw_1408 zw_1410 zv_65 zMs_0 zcl_12 rfl (mt_fm_walkOf e18) rfl ⟨by decide +kernel, by decide⟩ (Nat.le_of_ble_eq_true rfl) ?_
            obtain ⟨r19, e20, h⟩ := z_bd h
            refine zg_invV_i (av := [.inl v3, .inl r17]) (st := []) (n := 2) dd_252_123 ca_193 zw_1370 zw_1372 zv_61 zMs_0 zcl_12 rfl (mt_fm_crosses e20) rfl ⟨by decide +kernel, by decide⟩ (Nat.le_of_ble_eq_true rfl) ?_
            refine zg_if_eq (tgt := 134) dd_252_126 (by decide) (fun q21 => ?_) (fun q21 => ?_)
            · replace h := z_t h q21
              refine zg_iinc dd_252_134 (j := 5) rfl (v := (v5 + (1 : Int32))) (by rw [kI_1]) (Nat.le_of_ble_eq_true rfl) (lv' := [(5, .inl (v5 + (1 : Int32))), (0, .inr (.inr (some 0))), (1, .inl v1), (2, .inl v2), (3, .inl v3), (4, .inl v4)]) rfl ?_
              refine zg_goto (tgt := 70) dd_252_137 (by decide) ?_
              refine zg_sub [1, 2, 3, 4, 5, 0] rfl ?_
              exact ih _ _ _ _ _ _ h
            · replace h := z_f h q21
              refine zg_aload_n dd_252_129 rfl (j := 0) rfl ?_
              refine zg_getI (x := (r19.2 0 14)) dd_252_130 zl_M_209 zMs_0 rfl rfl ?_
              refine zg_istore_n dd_252_133 rfl (Nat.le_of_ble_eq_true rfl) (lv' := [(3, .inl (r19.2 0 14)), (0, .inr (.inr (some 0))), (1, .inl v1), (2, .inl v2), (4, .inl v4), (5, .inl v5)]) rfl ?_
              refine zg_iinc dd_252_134 (j := 5) rfl (v := (v5 + (1 : Int32))) (by rw [kI_1]) (Nat.le_of_ble_eq_true rfl) (lv' := [(5, .inl (v5 + (1 : Int32))), (3, .inl (r19.2 0 14)), (0, .inr (.inr (some 0))), (1, .inl v1), (2, .inl v2), (4, .inl v4)]) rfl ?_
              refine zg_goto (tgt := 70) dd_252_137 (by decide) ?_
              refine zg_sub [2, 3, 4, 1, 5, 0] rfl ?_
              exact ih _ _ _ _ _ _ h
        · replace h := z_f h q15
          refine zg_iconst dd_252_98 kI_1 ?_
          refine zg_iload dd_252_99 (j := 5) rfl ?_
          refine zg_iadd dd_252_101 ?_
          obtain rfl := Option.some.inj h
          exact zg_iret dd_252_102 rfl
set_option maxRecDepth 20000 in
theorem mt_fm_check {I : zI} {a1 : Int32} {res : (Int32 × zI)} (h : fm_check I a1 = some res) : zM 6 ym_252 [.inr (.inr (some 0)), .inl a1] (zMs, zMr, I) (some (.inl res.1)) (zMs, zMr, res.2) 0 0 := by
  refine zM_of (by decide) (Nat.le_of_ble_eq_true rfl) (lv := [(0, .inr (.inr (some 0))), (1, .inl a1)]) rfl ?_
  rw [fm_check] at h
  refine zg_aload_n dd_252_0 rfl (j := 0) rfl ?_
  refine zg_getR dd_252_1 zl_M_9 zMs_0 rfl zMr_0_0 ?_
  refine zg_bipush dd_252_4 kB_7 ?_
  refine zg_iald (w := (I 1 (7 : Int32).toNatClampNeg)) dd_252_6 zMs_1 (by decide) rfl ?_
  refine zg_istore_n dd_252_7 rfl (Nat.le_of_ble_eq_true rfl) (lv' := [(2, .inl (I 1 (7 : Int32).toNatClampNeg)), (0, .inr (.inr (some 0))), (1, .inl a1)]) rfl ?_
  refine zg_aload_n dd_252_8 rfl (j := 1) rfl ?_
  refine zg_getR dd_252_9 zl_M_9 zMs_0 rfl zMr_0_0 ?_
  refine zg_bipush dd_252_12 kB_7 ?_
  refine zg_iconst dd_252_14 kI_0 ?_
  refine zg_iast dd_252_15 zMs_1 (by decide) ?_
  refine zg_aload_n dd_252_16 rfl (j := 1) rfl ?_
  refine zg_iload_n dd_252_17 rfl (j := 2) rfl ?_
  refine zg_iconst dd_252_18 kI_2 ?_
  obtain ⟨r1, e2, h⟩ := z_bd h
  refine zg_invV_i (av := [.inl a1, .inl (2 : Int32)]) (st := []) (n := 2) dd_252_19 ca_144 zw_1150 zw_1152 zv_32 zMs_0 zcl_12 rfl (mt_fm_is e2) rfl ⟨by decide +kernel, by decide⟩ (Nat.le_of_ble_eq_true rfl) ?_
  refine zg_if_ne (tgt := 32) dd_252_22 (by decide) (fun q3 => ?_) (fun q3 => ?_)
  · replace h := z_f h q3
    refine zg_aload_n dd_252_32 rfl (j := 1) rfl ?_
    refine zg_iload_n dd_252_33 rfl (j := 2) rfl ?_
    refine zg_iconst dd_252_34 kI_0 ?_
    obtain ⟨r4, e5, h⟩ := z_bd h
    refine zg_invV_i (av := [.inl a1, .inl (0 : Int32)]) (st := []) (n := 2) dd_252_35 ca_204 zw_1416 zw_1418 zv_67 zMs_0 zcl_12 rfl (mt_fm_goes e5) rfl ⟨by decide +kernel, by decide⟩ (Nat.le_of_ble_eq_true rfl) ?_
    refine zg_if_ne (tgt := 48) dd_252_38 (by decide) (fun q6 => ?_) (fun q6 => ?_)
    · replace h := z_f h q6
      refine zg_iconst dd_252_48 kI_2 ?_
      refine zg_aload_n dd_252_49 rfl (j := 1) rfl ?_
      refine zg_iload_n dd_252_50 rfl (j := 2) rfl ?_
      refine zg_iconst dd_252_51 kI_1 ?_
      obtain ⟨r7, e8, h⟩ := z_bd h
      refine zg_invV_i (av := [.inl a1, .inl (1 : Int32)]) (st := [.inl (2 : Int32)]) (n := 2) dd_252_52 ca_205 zw_1408 zw_1410 zv_65 zMs_0 zcl_12 rfl (mt_fm_walkOf e8) rfl ⟨by decide +kernel, by decide⟩ (Nat.le_of_ble_eq_true rfl) ?_
      refine zg_imul dd_252_55 ?_
      refine zg_istore_n dd_252_56 rfl (Nat.le_of_ble_eq_true rfl) (lv' := [(3, .inl ((2 : Int32) * r7)), (2, .inl (I 1 (7 : Int32).toNatClampNeg)), (0, .inr (.inr (some 0))), (1, .inl a1)]) rfl ?_
      refine zg_iconst dd_252_57 kI_1 ?_
      refine zg_aload_n dd_252_58 rfl (j := 2) rfl ?_
      refine zg_iload_n dd_252_59 rfl (j := 3) rfl ?_
      refine zg_iconst dd_252_60 kI_2 ?_
      obtain ⟨r9, e10, h⟩ := z_bd h
      refine zg_invV_i (av := [.inl a1, .inl (2 : Int32)]) (st := [.inl (1 : Int32)]) (n := 2) dd_252_61 ca_205 zw_1408 zw_1410 zv_65 zMs_0 zcl_12 rfl (mt_fm_walkOf e10) rfl ⟨by decide +kernel, by decide⟩ (Nat.le_of_ble_eq_true rfl) ?_
      refine zg_iadd dd_252_64 ?_
      refine zg_istore dd_252_65 (Nat.le_of_ble_eq_true rfl) (lv' := [(4, .inl ((1 : Int32) + r9)), (3, .inl ((2 : Int32) * r7)), (2, .inl (I 1 (7 : Int32).toNatClampNeg)), (0, .inr (.inr (some 0))), (1, .inl a1)]) rfl ?_
      refine zg_iconst dd_252_67 kI_0 ?_
      refine zg_istore dd_252_68 (Nat.le_of_ble_eq_true rfl) (lv' := [(5, .inl (0 : Int32)), (4, .inl ((1 : Int32) + r9)), (3, .inl ((2 : Int32) * r7)), (2, .inl (I 1 (7 : Int32).toNatClampNeg)), (0, .inr (.inr (some 0))), (1, .inl a1)]) rfl ?_
      refine zg_sub [4, 5, 3, 2, 1, 0] rfl ?_
      refine lt_fm_check_L70  _ _ _ _ _ _ _ h
    · replace h := z_t h q6
      refine zg_aload_n dd_252_41 rfl (j := 1) rfl ?_
      refine zg_ldc dd_252_42 zw_1178 ?_
      obtain ⟨r22, e23, h⟩ := z_bd h
      refine zg_invV_i (av := [.inl (-1000003 : Int32)]) (st := []) (n := 1) dd_252_44 ca_142 zw_1140 zw_1142 zv_31 zMs_0 zcl_12 rfl (mt_fm_finding e23) rfl ⟨by decide +kernel, by decide⟩ (Nat.le_of_ble_eq_true rfl) ?_
      obtain rfl := Option.some.inj h
      exact zg_iret dd_252_47 rfl
  · replace h := z_t h q3
    refine zg_aload_n dd_252_25 rfl (j := 1) rfl ?_
    refine zg_ldc dd_252_26 zw_1139 ?_
    obtain ⟨r24, e25, h⟩ := z_bd h
    refine zg_invV_i (av := [.inl (-1000001 : Int32)]) (st := []) (n := 1) dd_252_28 ca_142 zw_1140 zw_1142 zv_31 zMs_0 zcl_12 rfl (mt_fm_finding e25) rfl ⟨by decide +kernel, by decide⟩ (Nat.le_of_ble_eq_true rfl) ?_
    obtain rfl := Option.some.inj h
    exact zg_iret dd_252_31 rfl
/-! TurnedLandModel.count(0, None) -/
def fm_count (I : zI) (a1 : Int32) : Option (Int32 × zI) :=
  (fm_within I a1 (0 : Int32) (10 : Int32)).bind fun r1 =>
  if r1 = 0 then
    (fm_finding I (-1000001 : Int32)).bind fun r8 =>
    some (r8.1, r8.2)
  else
    if (8 : Int32) ≤ a1 then
      if a1 = (8 : Int32) then
        some ((I 0 25), I)
      else
        z_guard (zb (((8 : Int32) + a1) - (9 : Int32)) 448) <|
        some ((I 1 (((8 : Int32) + a1) - (9 : Int32)).toNatClampNeg), I)
    else
      z_guard (zb a1 448) <|
      some ((I 1 a1.toNatClampNeg), I)
set_option maxRecDepth 20000 in
theorem mt_fm_count {I : zI} {a1 : Int32} {res : (Int32 × zI)} (h : fm_count I a1 = some res) : zM 2 ym_253 [.inr (.inr (some 0)), .inl a1] (zMs, zMr, I) (some (.inl res.1)) (zMs, zMr, res.2) 0 0 := by
  refine zM_of (by decide) (Nat.le_of_ble_eq_true rfl) (lv := [(0, .inr (.inr (some 0))), (1, .inl a1)]) rfl ?_
  rw [fm_count] at h
  refine zg_iload_n dd_253_0 rfl (j := 1) rfl ?_
  refine zg_iconst dd_253_1 kI_0 ?_
  refine zg_bipush dd_253_2 kB_10 ?_
  obtain ⟨r1, e2, h⟩ := z_bd h
  refine zg_invS_i (av := [.inl a1, .inl (0 : Int32), .inl (10 : Int32)]) (st := []) (n := 3) dd_253_4 ca_141 zw_1136 zw_1137 (mt_fm_within e2) rfl ⟨by decide +kernel, by decide⟩ (Nat.le_of_ble_eq_true rfl) ?_
  refine zg_if_ne (tgt := 17) dd_253_7 (by decide) (fun q3 => ?_) (fun q3 => ?_)
  · replace h := z_f h q3
    refine zg_iload_n dd_253_17 rfl (j := 1) rfl ?_
    refine zg_bipush dd_253_18 kB_8 ?_
    refine zg_icmp_ge (tgt := 32) dd_253_20 (by decide) (fun q4 => ?_) (fun q4 => ?_)
    · replace h := z_t h q4
      refine zg_iload_n dd_253_32 rfl (j := 1) rfl ?_
      refine zg_bipush dd_253_33 kB_8 ?_
      refine zg_icmp_ne (tgt := 45) dd_253_35 (by decide) (fun q5 => ?_) (fun q5 => ?_)
      · replace h := z_f h q5
        refine zg_aload_n dd_253_45 rfl (j := 0) rfl ?_
        refine zg_getR dd_253_46 zl_M_9 zMs_0 rfl zMr_0_0 ?_
        refine zg_bipush dd_253_49 kB_8 ?_
        refine zg_iload_n dd_253_51 rfl (j := 1) rfl ?_
        refine zg_iadd dd_253_52 ?_
        refine zg_bipush dd_253_53 kB_9 ?_
        refine zg_isub dd_253_55 ?_
        obtain ⟨g6, h⟩ := z_gd h
        refine zg_iald (w := (I 1 (((8 : Int32) + a1) - (9 : Int32)).toNatClampNeg)) dd_253_56 zMs_1 g6 rfl ?_
        obtain rfl := Option.some.inj h
        exact zg_iret dd_253_57 rfl
      · replace h := z_t h q5
        refine zg_aload_n dd_253_38 rfl (j := 0) rfl ?_
        refine zg_getI (x := (I 0 25)) dd_253_39 zl_M_299 zMs_0 rfl rfl ?_
        refine zg_goto (tgt := 57) dd_253_42 (by decide) ?_
        obtain rfl := Option.some.inj h
        exact zg_iret dd_253_57 rfl
    · replace h := z_f h q4
      refine zg_aload_n dd_253_23 rfl (j := 0) rfl ?_
      refine zg_getR dd_253_24 zl_M_9 zMs_0 rfl zMr_0_0 ?_
      refine zg_iload_n dd_253_27 rfl (j := 1) rfl ?_
      obtain ⟨g7, h⟩ := z_gd h
      refine zg_iald (w := (I 1 a1.toNatClampNeg)) dd_253_28 zMs_1 g7 rfl ?_
      refine zg_goto (tgt := 57) dd_253_29 (by decide) ?_
      obtain rfl := Option.some.inj h
      exact zg_iret dd_253_57 rfl
  · replace h := z_t h q3
    refine zg_aload_n dd_253_10 rfl (j := 0) rfl ?_
    refine zg_ldc dd_253_11 zw_1139 ?_
    obtain ⟨r8, e9, h⟩ := z_bd h
    refine zg_invV_i (av := [.inl (-1000001 : Int32)]) (st := []) (n := 1) dd_253_13 ca_142 zw_1140 zw_1142 zv_31 zMs_0 zcl_12 rfl (mt_fm_finding e9) rfl ⟨by decide +kernel, by decide⟩ (Nat.le_of_ble_eq_true rfl) ?_
    obtain rfl := Option.some.inj h
    exact zg_iret dd_253_16 rfl
/-! TurnedLandModel.told(0, None) -/
def fm_told (I : zI) (a1 : Int32) : Option (Int32 × zI) :=
  (fm_within I a1 (1 : Int32) (6 : Int32)).bind fun r1 =>
  if r1 = 0 then
    (fm_finding I (-1000001 : Int32)).bind fun r4 =>
    some (r4.1, r4.2)
  else
    z_guard (zb a1 7) <|
    some ((I 3 a1.toNatClampNeg), I)
set_option maxRecDepth 20000 in
theorem mt_fm_told {I : zI} {a1 : Int32} {res : (Int32 × zI)} (h : fm_told I a1 = some res) : zM 2 ym_254 [.inr (.inr (some 0)), .inl a1] (zMs, zMr, I) (some (.inl res.1)) (zMs, zMr, res.2) 0 0 := by
  refine zM_of (by decide) (Nat.le_of_ble_eq_true rfl) (lv := [(0, .inr (.inr (some 0))), (1, .inl a1)]) rfl ?_
  rw [fm_told] at h
  refine zg_iload_n dd_254_0 rfl (j := 1) rfl ?_
  refine zg_iconst dd_254_1 kI_1 ?_
  refine zg_bipush dd_254_2 kB_6 ?_
  obtain ⟨r1, e2, h⟩ := z_bd h
  refine zg_invS_i (av := [.inl a1, .inl (1 : Int32), .inl (6 : Int32)]) (st := []) (n := 3) dd_254_4 ca_141 zw_1136 zw_1137 (mt_fm_within e2) rfl ⟨by decide +kernel, by decide⟩ (Nat.le_of_ble_eq_true rfl) ?_
  refine zg_if_eq (tgt := 19) dd_254_7 (by decide) (fun q3 => ?_) (fun q3 => ?_)
  · replace h := z_t h q3
    refine zg_aload_n dd_254_19 rfl (j := 0) rfl ?_
    refine zg_ldc dd_254_20 zw_1139 ?_
    obtain ⟨r4, e5, h⟩ := z_bd h
    refine zg_invV_i (av := [.inl (-1000001 : Int32)]) (st := []) (n := 1) dd_254_22 ca_142 zw_1140 zw_1142 zv_31 zMs_0 zcl_12 rfl (mt_fm_finding e5) rfl ⟨by decide +kernel, by decide⟩ (Nat.le_of_ble_eq_true rfl) ?_
    obtain rfl := Option.some.inj h
    exact zg_iret dd_254_25 rfl
  · replace h := z_f h q3
    refine zg_aload_n dd_254_10 rfl (j := 0) rfl ?_
    refine zg_getR dd_254_11 zl_M_16 zMs_0 rfl zMr_0_3 ?_
    refine zg_iload_n dd_254_14 rfl (j := 1) rfl ?_
    obtain ⟨g6, h⟩ := z_gd h
    refine zg_iald (w := (I 3 a1.toNatClampNeg)) dd_254_15 zMs_3 g6 rfl ?_
    refine zg_goto (tgt := 25) dd_254_16 (by decide) ?_
    obtain rfl := Option.some.inj h
    exact zg_iret dd_254_25 rfl
