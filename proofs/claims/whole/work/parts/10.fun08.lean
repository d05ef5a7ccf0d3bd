/-! TurnedLandModel.comesTurned[0, None, None] -/
def fm_comesTurned_L5 (I : zI) : Nat → Int32 → Int32 → Int32 → Int32 → Option Int32
  | 0, _, _, _, _ => none
  | nf + 1, v1, v2, v3, v4 =>
    if (I 1 (0 : Int32).toNatClampNeg) ≤ v4 then
      z_guard (zbb v3) <|
      some v3
    else
      if v3 = 0 then
        (fm_reachedBut I ((2 : Int32) * v4) v1 v2).bind fun r4 =>
        (fm_has I r4 (((2 : Int32) * v4) + (1 : Int32))).bind fun r6 =>
        if r6 = 0 then
          fm_comesTurned_L5 I nf v1 v2 (0 : Int32) (v4 + (1 : Int32))
        else
          fm_comesTurned_L5 I nf v1 v2 (1 : Int32) (v4 + (1 : Int32))
      else
        fm_comesTurned_L5 I nf v1 v2 (1 : Int32) (v4 + (1 : Int32))
def fm_comesTurned (I : zI) (a1 : Int32) (a2 : Int32) : Option Int32 :=
  fm_comesTurned_L5 I
    100 a1 a2 (0 : Int32) (0 : Int32)
set_option maxRecDepth 20000 in
theorem lt_fm_comesTurned_L5 {res : Int32} {I : zI} : ∀ (nf : Nat) (v1 : Int32) (v2 : Int32) (v3 : Int32) (v4 : Int32), fm_comesTurned_L5 I nf v1 v2 v3 v4 = some res → zG 4 ym_167 0 0 (some (.inl res)) (zMs, zMr, I) zMs.length 5 [(0, .inr (.inr (some 0))), (1, .inl v1), (2, .inl v2), (3, .inl v3), (4, .inl v4)] [] (zMs, zMr, I) 0 0 := by
  intro nf
  induction nf with
  | zero =>
    intro v1 v2 v3 v4 h
    have h2 : none = some res := h
    cases h2
  | succ nf ih =>
    intro v1 v2 v3 v4 h
    rw [fm_comesTurned_L5] at h
    refine zg_iload dd_167_5 (j := 4) rfl ?_
    refine zg_aload_n dd_167_7 rfl (j := 0) rfl ?_
    refine zg_getR dd_167_8 zl_M_9 zMs_0 rfl zMr_0_0 ?_
    refine zg_iconst dd_167_11 kI_0 ?_
    refine zg_iald (w := (I 1 (0 : Int32).toNatClampNeg)) dd_167_12 zMs_1 (by decide) rfl ?_
    refine zg_icmp_ge (tgt := 54) dd_167_13 (by decide) (fun q1 => ?_) (fun q1 => ?_)
    · replace h := z_t h q1
      refine zg_iload_n dd_167_54 rfl (j := 3) rfl ?_
      obtain ⟨g2, h⟩ := z_gd h
      obtain rfl := Option.some.inj h
      exact zg_zret dd_167_55 rfl (zSt_bb g2).1
    · replace h := z_f h q1
      refine zg_iload_n dd_167_16 rfl (j := 3) rfl ?_
      refine zg_if_ne (tgt := 42) dd_167_17 (by decide) (fun q3 => ?_) (fun q3 => ?_)
      · replace h := z_f h q3
        refine zg_iconst dd_167_42 kI_1 ?_
        refine zg_goto (tgt := 47) dd_167_43 (by decide) ?_
        refine zg_istore_n dd_167_47 rfl (Nat.le_of_ble_eq_true rfl) (lv' := [(3, .inl (1 : Int32)), (0, .inr (.inr (some 0))), (1, .inl v1), (2, .inl v2), (4, .inl v4)]) rfl ?_
        refine zg_iinc dd_167_48 (j := 4) rfl (v := (v4 + (1 : Int32))) (by rw [kI_1]) (Nat.le_of_ble_eq_true rfl) (lv' := [(4, .inl (v4 + (1 : Int32))), (3, .inl (1 : Int32)), (0, .inr (.inr (some 0))), (1, .inl v1), (2, .inl v2)]) rfl ?_
        refine zg_goto (tgt := 5) dd_167_51 (by decide) ?_
        refine zg_sub [2, 3, 4, 1, 0] rfl ?_
        exact ih _ _ _ _ h
      · replace h := z_t h q3
        refine zg_aload_n dd_167_20 rfl (j := 0) rfl ?_
        refine zg_iconst dd_167_21 kI_2 ?_
        refine zg_iload dd_167_22 (j := 4) rfl ?_
        refine zg_imul dd_167_24 ?_
        refine zg_iload_n dd_167_25 rfl (j := 1) rfl ?_
        refine zg_iload_n dd_167_26 rfl (j := 2) rfl ?_
        obtain ⟨r4, e5, h⟩ := z_bd h
        refine zg_invV_i (av := [.inl ((2 : Int32) * v4), .inl v1, .inl v2]) (st := []) (n := 3) dd_167_27 ca_163 zw_1229 zw_1231 zv_44 zMs_0 zcl_12 rfl (mt_fm_reachedBut e5) rfl ⟨by decide +kernel, by decide⟩ (Nat.le_of_ble_eq_true rfl) ?_
        refine zg_iconst dd_167_30 kI_2 ?_
        refine zg_iload dd_167_31 (j := 4) rfl ?_
        refine zg_imul dd_167_33 ?_
        refine zg_iconst dd_167_34 kI_1 ?_
        refine zg_iadd dd_167_35 ?_
        obtain ⟨r6, e7, h⟩ := z_bd h
        refine zg_invS_i (av := [.inl r4, .inl (((2 : Int32) * v4) + (1 : Int32))]) (st := []) (n := 2) dd_167_36 ca_165 zw_1237 zw_1238 (mt_fm_has e7) rfl ⟨by decide +kernel, by decide⟩ (Nat.le_of_ble_eq_true rfl) ?_
        refine zg_if_eq (tgt := 46) dd_167_39 (by decide) (fun q8 => ?_) (fun q8 => ?_)
        · replace h := z_t h q8
          refine zg_iconst dd_167_46 kI_0 ?_
          refine zg_istore_n dd_167_47 rfl (Nat.le_of_ble_eq_true rfl) (lv' := [(3, .inl (0 : Int32)), (0, .inr (.inr (some 0))), (1, .inl v1), (2, .inl v2), (4, .inl v4)]) rfl ?_
          refine zg_iinc dd_167_48 (j := 4) rfl (v := (v4 + (1 : Int32))) (by rw [kI_1]) (Nat.le_of_ble_eq_true rfl) (lv' := [(4, .inl (v4 + (1 : Int32))), (3, .inl (0 : Int32)), (0, .inr (.inr (some 0))), (1, .inl v1), (2, .inl v2)]) rfl ?_
          refine zg_goto (tgt := 5) dd_167_51 (by decide) ?_
          refine zg_sub [2, 3, 4, 1, 0] rfl ?_
          exact ih _ _ _ _ h
        · replace h := z_f h q8
          refine zg_iconst dd_167_42 kI_1 ?_
          refine zg_goto (tgt := 47) dd_167_43 (by decide) ?_
          refine zg_istore_n dd_167_47 rfl (Nat.le_of_ble_eq_true rfl) (lv' := [(3, .inl (1 : Int32)), (0, .inr (.inr (some 0))), (1, .inl v1), (2, .inl v2), (4, .inl v4)]) rfl ?_
          refine zg_iinc dd_167_48 (j := 4) rfl (v := (v4 + (1 : Int32))) (by rw [kI_1]) (Nat.le_of_ble_eq_true rfl) (lv' := [(4, .inl (v4 + (1 : Int32))), (3, .inl (1 : Int32)), (0, .inr (.inr (some 0))), (1, .inl v1), (2, .inl v2)]) rfl ?_
          refine zg_goto (tgt := 5) dd_167_51 (by decide) ?_
          refine zg_sub [2, 3, 4, 1, 0] rfl ?_
          exact ih _ _ _ _ h
set_option maxRecDepth 20000 in
theorem mt_fm_comesTurned {I : zI} {a1 : Int32} {a2 : Int32} {res : Int32} (h : fm_comesTurned I a1 a2 = some res) : zM 4 ym_167 [.inr (.inr (some 0)), .inl a1, .inl a2] (zMs, zMr, I) (some (.inl res)) (zMs, zMr, I) 0 0 := by
  refine zM_of (by decide) (Nat.le_of_ble_eq_true rfl) (lv := [(0, .inr (.inr (some 0))), (1, .inl a1), (2, .inl a2)]) rfl ?_
  rw [fm_comesTurned] at h
  refine zg_iconst dd_167_0 kI_0 ?_
  refine zg_istore_n dd_167_1 rfl (Nat.le_of_ble_eq_true rfl) (lv' := [(3, .inl (0 : Int32)), (0, .inr (.inr (some 0))), (1, .inl a1), (2, .inl a2)]) rfl ?_
  refine zg_iconst dd_167_2 kI_0 ?_
  refine zg_istore dd_167_3 (Nat.le_of_ble_eq_true rfl) (lv' := [(4, .inl (0 : Int32)), (3, .inl (0 : Int32)), (0, .inr (.inr (some 0))), (1, .inl a1), (2, .inl a2)]) rfl ?_
  refine zg_sub [2, 3, 4, 1, 0] rfl ?_
  refine lt_fm_comesTurned_L5  _ _ _ _ _ h
/-! TurnedLandModel.land(0, None) -/
def fm_land (I : zI) (a1 : Int32) : Option (Int32 × zI) :=
  if a1 = (0 : Int32) then
    (fm_cornersNow I).bind fun r2 =>
    some (r2.1, r2.2)
  else if a1 = (1 : Int32) then
    some ((((4 : Int32) * (I 1 (0 : Int32).toNatClampNeg)) - (I 1 (1 : Int32).toNatClampNeg)), I)
  else if a1 = (2 : Int32) then
    (fm_cornersNow I).bind fun r6 =>
    some (((r6.1 - (((4 : Int32) * (I 1 (0 : Int32).toNatClampNeg)) - (I 1 (1 : Int32).toNatClampNeg))) + (r6.2 1 (0 : Int32).toNatClampNeg)), r6.2)
  else if a1 = (3 : Int32) then
    (fm_parts I).bind fun r9 =>
    some (r9, I)
  else if a1 = (4 : Int32) then
    (fm_rims I).bind fun r12 =>
    some (r12.1, r12.2)
  else if a1 = (5 : Int32) then
    (fm_comesTurned I (-1 : Int32) (-1 : Int32)).bind fun r15 =>
    if r15 = 0 then
      some ((0 : Int32), I)
    else
      some ((1 : Int32), I)
  else
    (fm_finding I (-1000001 : Int32)).bind fun r18 =>
    some (r18.1, r18.2)
set_option maxRecDepth 20000 in
theorem mt_fm_land {I : zI} {a1 : Int32} {res : (Int32 × zI)} (h : fm_land I a1 = some res) : zM 5 ym_157 [.inr (.inr (some 0)), .inl a1] (zMs, zMr, I) (some (.inl res.1)) (zMs, zMr, res.2) 0 0 := by
  refine zM_of (by decide) (Nat.le_of_ble_eq_true rfl) (lv := [(0, .inr (.inr (some 0))), (1, .inl a1)]) rfl ?_
  rw [fm_land] at h
  refine zg_iconst dd_157_0 kI_4 ?_
  refine zg_aload_n dd_157_1 rfl (j := 0) rfl ?_
  refine zg_getR dd_157_2 zl_M_9 zMs_0 rfl zMr_0_0 ?_
  refine zg_iconst dd_157_5 kI_0 ?_
  refine zg_iald (w := (I 1 (0 : Int32).toNatClampNeg)) dd_157_6 zMs_1 (by decide) rfl ?_
  refine zg_imul dd_157_7 ?_
  refine zg_aload_n dd_157_8 rfl (j := 0) rfl ?_
  refine zg_getR dd_157_9 zl_M_9 zMs_0 rfl zMr_0_0 ?_
  refine zg_iconst dd_157_12 kI_1 ?_
  refine zg_iald (w := (I 1 (1 : Int32).toNatClampNeg)) dd_157_13 zMs_1 (by decide) rfl ?_
  refine zg_isub dd_157_14 ?_
  refine zg_istore_n dd_157_15 rfl (Nat.le_of_ble_eq_true rfl) (lv' := [(2, .inl (((4 : Int32) * (I 1 (0 : Int32).toNatClampNeg)) - (I 1 (1 : Int32).toNatClampNeg))), (0, .inr (.inr (some 0))), (1, .inl a1)]) rfl ?_
  refine zg_iload_n dd_157_16 rfl (j := 2) rfl ?_
  rcases z_if h with ⟨q1, h⟩ | ⟨q1, h⟩
  · refine zg_tabIn (tgt := 56) 39 dd_157_17 q1 (by decide) (by decide) (by decide) ?_
    refine zg_aload_n dd_157_56 rfl (j := 1) rfl ?_
    obtain ⟨r2, e3, h⟩ := z_bd h
    refine zg_invV_i (av := []) (st := []) (n := 0) dd_157_57 ca_158 zw_1208 zw_1210 zv_40 zMs_0 zcl_12 rfl (mt_fm_cornersNow e3) rfl ⟨by decide +kernel, by decide⟩ (Nat.le_of_ble_eq_true rfl) ?_
    obtain rfl := Option.some.inj h
    exact zg_iret dd_157_60 rfl
  rcases z_if h with ⟨q4, h⟩ | ⟨q4, h⟩
  · refine zg_tabIn (tgt := 61) 44 dd_157_17 q4 (by decide) (by decide) (by decide) ?_
    refine zg_iload_n dd_157_61 rfl (j := 0) rfl ?_
    obtain rfl := Option.some.inj h
    exact zg_iret dd_157_62 rfl
  rcases z_if h with ⟨q5, h⟩ | ⟨q5, h⟩
  · refine zg_tabIn (tgt := 63) 46 dd_157_17 q5 (by decide) (by decide) (by decide) ?_
    refine zg_aload_n dd_157_63 rfl (j := 1) rfl ?_
    obtain ⟨r6, e7, h⟩ := z_bd h
    refine zg_invV_i (av := []) (st := []) (n := 0) dd_157_64 ca_158 zw_1208 zw_1210 zv_40 zMs_0 zcl_12 rfl (mt_fm_cornersNow e7) rfl ⟨by decide +kernel, by decide⟩ (Nat.le_of_ble_eq_true rfl) ?_
    refine zg_iload_n dd_157_67 rfl (j := 0) rfl ?_
    refine zg_isub dd_157_68 ?_
    refine zg_aload_n dd_157_69 rfl (j := 1) rfl ?_
    refine zg_getR dd_157_70 zl_M_9 zMs_0 rfl zMr_0_0 ?_
    refine zg_iconst dd_157_73 kI_0 ?_
    refine zg_iald (w := (r6.2 1 (0 : Int32).toNatClampNeg)) dd_157_74 zMs_1 (by decide) rfl ?_
    refine zg_iadd dd_157_75 ?_
    obtain rfl := Option.some.inj h
    exact zg_iret dd_157_76 rfl
  rcases z_if h with ⟨q8, h⟩ | ⟨q8, h⟩
  · refine zg_tabIn (tgt := 77) 60 dd_157_17 q8 (by decide) (by decide) (by decide) ?_
    refine zg_aload_n dd_157_77 rfl (j := 1) rfl ?_
    obtain ⟨r9, e10, h⟩ := z_bd h
    refine zg_invV_i (av := []) (st := []) (n := 0) dd_157_78 ca_162 zw_1225 zw_1227 zv_43 zMs_0 zcl_12 rfl (mt_fm_parts e10) rfl ⟨by decide +kernel, by decide⟩ (Nat.le_of_ble_eq_true rfl) ?_
    obtain rfl := Option.some.inj h
    exact zg_iret dd_157_81 rfl
  rcases z_if h with ⟨q11, h⟩ | ⟨q11, h⟩
  · refine zg_tabIn (tgt := 82) 65 dd_157_17 q11 (by decide) (by decide) (by decide) ?_
    refine zg_aload_n dd_157_82 rfl (j := 1) rfl ?_
    obtain ⟨r12, e13, h⟩ := z_bd h
    refine zg_invV_i (av := []) (st := []) (n := 0) dd_157_83 ca_166 zw_1240 zw_1242 zv_46 zMs_0 zcl_12 rfl (mt_fm_rims e13) rfl ⟨by decide +kernel, by decide⟩ (Nat.le_of_ble_eq_true rfl) ?_
    obtain rfl := Option.some.inj h
    exact zg_iret dd_157_86 rfl
  rcases z_if h with ⟨q14, h⟩ | ⟨q14, h⟩
  · refine zg_tabIn (tgt := 87) 70 dd_157_17 q14 (by decide) (by decide) (by decide) ?_
    refine zg_aload_n dd_157_87 rfl (j := 1) rfl ?_
    refine zg_iconst dd_157_88 kI_m1 ?_
    refine zg_iconst dd_157_89 kI_m1 ?_
    obtain ⟨r15, e16, h⟩ := z_bd h
    refine zg_invV_i (av := [.inl (-1 : Int32), .inl (-1 : Int32)]) (st := []) (n := 2) dd_157_90 ca_167 zw_1244 zw_1246 zv_47 zMs_0 zcl_12 rfl (mt_fm_comesTurned e16) rfl ⟨by decide +kernel, by decide⟩ (Nat.le_of_ble_eq_true rfl) ?_
    refine zg_if_eq (tgt := 100) dd_157_93 (by decide) (fun q17 => ?_) (fun q17 => ?_)
    · replace h := z_t h q17
      refine zg_iconst dd_157_100 kI_0 ?_
      obtain rfl := Option.some.inj h
      exact zg_iret dd_157_101 rfl
    · replace h := z_f h q17
      refine zg_iconst dd_157_96 kI_1 ?_
      refine zg_goto (tgt := 101) dd_157_97 (by decide) ?_
      obtain rfl := Option.some.inj h
      exact zg_iret dd_157_101 rfl
  refine zg_tabOut (tgt := 102) [(0 : Int32), (1 : Int32), (2 : Int32), (3 : Int32), (4 : Int32), (5 : Int32)] dd_157_17 (by decide +kernel) (by simp only [List.mem_cons, List.not_mem_nil, or_false]; rintro _ (rfl | rfl | rfl | rfl | rfl | rfl) <;> assumption) (by decide) ?_
  refine zg_aload_n dd_157_102 rfl (j := 1) rfl ?_
  refine zg_ldc dd_157_103 zw_1139 ?_
  obtain ⟨r18, e19, h⟩ := z_bd h
  refine zg_invV_i (av := [.inl (-1000001 : Int32)]) (st := []) (n := 1) dd_157_105 ca_142 zw_1140 zw_1142 zv_31 zMs_0 zcl_12 rfl (mt_fm_finding e19) rfl ⟨by decide +kernel, by decide⟩ (Nat.le_of_ble_eq_true rfl) ?_
  obtain rfl := Option.some.inj h
  exact zg_iret dd_157_108 rfl
/-! TurnedLandModel.plain(0,) -/
def fm_plain_L54 (k76 : Int32 → zI → Option (Int32 × zI)) : Nat → Int32 → Int32 → zI → Option (Int32 × zI)
  | 0, _, _, _ => none
  | nf + 1, v1, v2, I =>
    if v1 ≤ v2 then
      k76 v1 I
    else
      (fm_comesTurned I v1 v2).bind fun r9 =>
      if r9 = 0 then
        some ((2 : Int32), I)
      else
        fm_plain_L54 k76 nf v1 (v2 + (1 : Int32)) I
def fm_plain_L42 : Nat → Int32 → zI → Option (Int32 × zI)
  | 0, _, _ => none
  | nf + 1, v1, I =>
    if (I 1 (1 : Int32).toNatClampNeg) ≤ v1 then
      (fm_finding I (-1000002 : Int32)).bind fun r6 =>
      some (r6.1, r6.2)
    else
      fm_plain_L54
        (fun (u12 : Int32) (J13 : zI) =>
          fm_plain_L42 nf (u12 + (1 : Int32)) J13
        )
        100 v1 (0 : Int32) I
def fm_plain_L13 : Nat → Int32 → zI → Option (Int32 × zI)
  | 0, _, _ => none
  | nf + 1, v1, I =>
    if (I 1 (1 : Int32).toNatClampNeg) ≤ v1 then
      fm_plain_L42
        100 (0 : Int32) I
    else
      (fm_comesTurned I v1 (-1 : Int32)).bind fun r14 =>
      if r14 = 0 then
        some ((1 : Int32), I)
      else
        fm_plain_L13 nf (v1 + (1 : Int32)) I
def fm_plain (I : zI) : Option (Int32 × zI) :=
  (fm_comesTurned I (-1 : Int32) (-1 : Int32)).bind fun r1 =>
  if r1 = 0 then
    some ((0 : Int32), I)
  else
    fm_plain_L13
      100 (0 : Int32) I
set_option maxRecDepth 20000 in
theorem lt_fm_plain_L54 {res : (Int32 × zI)} {k76 : Int32 → zI → Option (Int32 × zI)} (hk76 : ∀ (v1 : Int32) (J : zI), k76 v1 J = some res → zG 5 ym_168 0 0 (some (.inl res.1)) (zMs, zMr, res.2) zMs.length 76 [(0, .inr (.inr (some 0))), (1, .inl v1)] [] (zMs, zMr, J) 0 0) : ∀ (nf : Nat) (v1 : Int32) (v2 : Int32) (I : zI), fm_plain_L54 k76 nf v1 v2 I = some res → zG 5 ym_168 0 0 (some (.inl res.1)) (zMs, zMr, res.2) zMs.length 54 [(0, .inr (.inr (some 0))), (1, .inl v1), (2, .inl v2)] [] (zMs, zMr, I) 0 0 := by
  intro nf
  induction nf with
  | zero =>
    intro v1 v2 I h
    have h2 : none = some res := h
    cases h2
  | succ nf ih =>
    intro v1 v2 I h
    rw [fm_plain_L54] at h
    refine zg_iload_n dd_168_54 rfl (j := 2) rfl ?_
    refine zg_iload_n dd_168_55 rfl (j := 1) rfl ?_
    refine zg_icmp_ge (tgt := 76) dd_168_56 (by decide) (fun q8 => ?_) (fun q8 => ?_)
    · replace h := z_t h q8
      refine zg_sub [0, 1] rfl ?_
      exact hk76 _ _ h
    · replace h := z_f h q8
      refine zg_aload_n dd_168_59 rfl (j := 0) rfl ?_
      refine zg_iload_n dd_168_60 rfl (j := 1) rfl ?_
      refine zg_iload_n dd_168_61 rfl (j := 2) rfl ?_
      obtain ⟨r9, e10, h⟩ := z_bd h
      refine zg_invV_i (av := [.inl v1, .inl v2]) (st := []) (n := 2) dd_168_62 ca_167 zw_1244 zw_1246 zv_47 zMs_0 zcl_12 rfl (mt_fm_comesTurned e10) rfl ⟨by decide +kernel, by decide⟩ (Nat.le_of_ble_eq_true rfl) ?_
      refine zg_if_ne (tgt := 70) dd_168_65 (by decide) (fun q11 => ?_) (fun q11 => ?_)
      · replace h := z_f h q11
        refine zg_iinc dd_168_70 (j := 2) rfl (v := (v2 + (1 : Int32))) (by rw [kI_1]) (Nat.le_of_ble_eq_true rfl) (lv' := [(2, .inl (v2 + (1 : Int32))), (0, .inr (.inr (some 0))), (1, .inl v1)]) rfl ?_
        refine zg_goto (tgt := 54) dd_168_73 (by decide) ?_
        refine zg_sub [1, 2, 0] rfl ?_
        exact ih _ _ _ h
      · replace h := z_t h q11
        refine zg_iconst dd_168_68 kI_2 ?_
        obtain rfl := Option.some.inj h
        exact zg_iret dd_168_69 rfl
set_option maxRecDepth 20000 in
theorem lt_fm_plain_L42 {res : (Int32 × zI)} : ∀ (nf : Nat) (v1 : Int32) (I : zI), fm_plain_L42 nf v1 I = some res → zG 5 ym_168 0 0 (some (.inl res.1)) (zMs, zMr, res.2) zMs.length 42 [(0, .inr (.inr (some 0))), (1, .inl v1)] [] (zMs, zMr, I) 0 0 := by
  intro nf
  induction nf with
  | zero =>
    intro v1 I h
    have h2 : none = some res := h
    cases h2
  | succ nf ih =>
    intro v1 I h
    rw [fm_plain_L42] at h
    refine zg_iload_n dd_168_42 rfl (j := 1) rfl ?_
    refine zg_aload_n dd_168_43 rfl (j := 0) rfl ?_
    refine zg_getR dd_168_44 zl_M_9 zMs_0 rfl zMr_0_0 ?_
    refine zg_iconst dd_168_47 kI_1 ?_
    refine zg_iald (w := (I 1 (1 : Int32).toNatClampNeg)) dd_168_48 zMs_1 (by decide) rfl ?_
    refine zg_icmp_ge (tgt := 82) dd_168_49 (by decide) (fun q5 => ?_) (fun q5 => ?_)
    · replace h := z_t h q5
      refine zg_aload_n dd_168_82 rfl (j := 0) rfl ?_
      refine zg_ldc dd_168_83 zw_1199 ?_
      obtain ⟨r6, e7, h⟩ := z_bd h
      refine zg_invV_i (av := [.inl (-1000002 : Int32)]) (st := []) (n := 1) dd_168_85 ca_142 zw_1140 zw_1142 zv_31 zMs_0 zcl_12 rfl (mt_fm_finding e7) rfl ⟨by decide +kernel, by decide⟩ (Nat.le_of_ble_eq_true rfl) ?_
      obtain rfl := Option.some.inj h
      exact zg_iret dd_168_88 rfl
    · replace h := z_f h q5
      refine zg_iconst dd_168_52 kI_0 ?_
      refine zg_istore_n dd_168_53 rfl (Nat.le_of_ble_eq_true rfl) (lv' := [(2, .inl (0 : Int32)), (0, .inr (.inr (some 0))), (1, .inl v1)]) rfl ?_
      refine zg_sub [1, 2, 0] rfl ?_
      refine lt_fm_plain_L54 ?_ _ _ _ _ h
      · intro u12 J13 h
        refine zg_iinc dd_168_76 (j := 1) rfl (v := (u12 + (1 : Int32))) (by rw [kI_1]) (Nat.le_of_ble_eq_true rfl) (lv' := [(1, .inl (u12 + (1 : Int32))), (0, .inr (.inr (some 0)))]) rfl ?_
        refine zg_goto (tgt := 42) dd_168_79 (by decide) ?_
        refine zg_sub [1, 0] rfl ?_
        exact ih _ _ h
set_option maxRecDepth 20000 in
theorem lt_fm_plain_L13 {res : (Int32 × zI)} : ∀ (nf : Nat) (v1 : Int32) (I : zI), fm_plain_L13 nf v1 I = some res → zG 5 ym_168 0 0 (some (.inl res.1)) (zMs, zMr, res.2) zMs.length 13 [(0, .inr (.inr (some 0))), (1, .inl v1)] [] (zMs, zMr, I) 0 0 := by
  intro nf
  induction nf with
  | zero =>
    intro v1 I h
    have h2 : none = some res := h
    cases h2
  | succ nf ih =>
    intro v1 I h
    rw [fm_plain_L13] at h
    refine zg_iload_n dd_168_13 rfl (j := 1) rfl ?_
    refine zg_aload_n dd_168_14 rfl (j := 0) rfl ?_
    refine zg_getR dd_168_15 zl_M_9 zMs_0 rfl zMr_0_0 ?_
    refine zg_iconst dd_168_18 kI_1 ?_
    refine zg_iald (w := (I 1 (1 : Int32).toNatClampNeg)) dd_168_19 zMs_1 (by decide) rfl ?_
    refine zg_icmp_ge (tgt := 40) dd_168_20 (by decide) (fun q4 => ?_) (fun q4 => ?_)
    · replace h := z_t h q4
      refine zg_iconst dd_168_40 kI_0 ?_
      refine zg_istore_n dd_168_41 rfl (Nat.le_of_ble_eq_true rfl) (lv' := [(1, .inl (0 : Int32)), (0, .inr (.inr (some 0)))]) rfl ?_
      refine zg_sub [1, 0] rfl ?_
      refine lt_fm_plain_L42  _ _ _ h
    · replace h := z_f h q4
      refine zg_aload_n dd_168_23 rfl (j := 0) rfl ?_
      refine zg_iload_n dd_168_24 rfl (j := 1) rfl ?_
      refine zg_iconst dd_168_25 kI_m1 ?_
      obtain ⟨r14, e15, h⟩ := z_bd h
      refine zg_invV_i (av := [.inl v1, .inl (-1 : Int32)]) (st := []) (n := 2) dd_168_26 ca_167 zw_1244 zw_1246 zv_47 zMs_0 zcl_12 rfl (mt_fm_comesTurned e15) rfl ⟨by decide +kernel, by decide⟩ (Nat.le_of_ble_eq_true rfl) ?_
      refine zg_if_ne (tgt := 34) dd_168_29 (by decide) (fun q16 => ?_) (fun q16 => ?_)
      · replace h := z_f h q16
        refine zg_iinc dd_168_34 (j := 1) rfl (v := (v1 + (1 : Int32))) (by rw [kI_1]) (Nat.le_of_ble_eq_true rfl) (lv' := [(1, .inl (v1 + (1 : Int32))), (0, .inr (.inr (some 0)))]) rfl ?_
        refine zg_goto (tgt := 13) dd_168_37 (by decide) ?_
        refine zg_sub [1, 0] rfl ?_
        exact ih _ _ h
      · replace h := z_t h q16
        refine zg_iconst dd_168_32 kI_1 ?_
        obtain rfl := Option.some.inj h
        exact zg_iret dd_168_33 rfl
set_option maxRecDepth 20000 in
theorem mt_fm_plain {I : zI} {res : (Int32 × zI)} (h : fm_plain I = some res) : zM 5 ym_168 [.inr (.inr (some 0))] (zMs, zMr, I) (some (.inl res.1)) (zMs, zMr, res.2) 0 0 := by
  refine zM_of (by decide) (Nat.le_of_ble_eq_true rfl) (lv := [(0, .inr (.inr (some 0)))]) rfl ?_
  rw [fm_plain] at h
  refine zg_aload_n dd_168_0 rfl (j := 0) rfl ?_
  refine zg_iconst dd_168_1 kI_m1 ?_
  refine zg_iconst dd_168_2 kI_m1 ?_
  obtain ⟨r1, e2, h⟩ := z_bd h
  refine zg_invV_i (av := [.inl (-1 : Int32), .inl (-1 : Int32)]) (st := []) (n := 2) dd_168_3 ca_167 zw_1244 zw_1246 zv_47 zMs_0 zcl_12 rfl (mt_fm_comesTurned e2) rfl ⟨by decide +kernel, by decide⟩ (Nat.le_of_ble_eq_true rfl) ?_
  refine zg_if_ne (tgt := 11) dd_168_6 (by decide) (fun q3 => ?_) (fun q3 => ?_)
  · replace h := z_f h q3
    refine zg_iconst dd_168_11 kI_0 ?_
    refine zg_istore_n dd_168_12 rfl (Nat.le_of_ble_eq_true rfl) (lv' := [(1, .inl (0 : Int32)), (0, .inr (.inr (some 0)))]) rfl ?_
    refine zg_sub [1, 0] rfl ?_
    refine lt_fm_plain_L13  _ _ _ h
  · replace h := z_t h q3
    refine zg_iconst dd_168_9 kI_0 ?_
    obtain rfl := Option.some.inj h
    exact zg_iret dd_168_10 rfl
/-! TurnedLandModel.feed(0, None, None) -/
def fm_feed_L41 : Nat → Int64 → Int32 → Int32 → zI → Option (Int32 × zI)
  | 0, _, _, _, _ => none
  | nf + 1, v1, v3, v4, I =>
    if v3 ≤ v4 then
      some ((I 1 (6 : Int32).toNatClampNeg), I)
    else
      z_guard (zb ((240 : Int32) + (I 1 (6 : Int32).toNatClampNeg)) 448) <|
      fm_feed_L41 nf v1 v3 (v4 + (1 : Int32)) (zup (zup I 1 ((240 : Int32) + (I 1 (6 : Int32).toNatClampNeg)).toNatClampNeg (Int64.toInt32 ((zlshr v1 ((8 : Int32) * v4)) &&& (255 : Int64)))) 1 (6 : Int32).toNatClampNeg (((zup I 1 ((240 : Int32) + (I 1 (6 : Int32).toNatClampNeg)).toNatClampNeg (Int64.toInt32 ((zlshr v1 ((8 : Int32) * v4)) &&& (255 : Int64)))) 1 (6 : Int32).toNatClampNeg) + (1 : Int32)))
def fm_feed (I : zI) (a1 : Int64) (a3 : Int32) : Option (Int32 × zI) :=
  (fm_within I a3 (1 : Int32) (8 : Int32)).bind fun r1 =>
  if r1 = 0 then
    (fm_finding I (-1000001 : Int32)).bind fun r9 =>
    some (r9.1, r9.2)
  else
    if ((I 1 (6 : Int32).toNatClampNeg) + a3) ≤ (60 : Int32) then
      fm_feed_L41
        100 a1 a3 (0 : Int32) I
    else
      (fm_finding I (-1000004 : Int32)).bind fun r7 =>
      some (r7.1, r7.2)
set_option maxRecDepth 20000 in
theorem lt_fm_feed_L41 {res : (Int32 × zI)} : ∀ (nf : Nat) (v1 : Int64) (v3 : Int32) (v4 : Int32) (I : zI), fm_feed_L41 nf v1 v3 v4 I = some res → zG 2 ym_169 0 0 (some (.inl res.1)) (zMs, zMr, res.2) zMs.length 41 [(0, .inr (.inr (some 0))), (1, .inr (.inl v1)), (3, .inl v3), (4, .inl v4)] [] (zMs, zMr, I) 0 0 := by
  intro nf
  induction nf with
  | zero =>
    intro v1 v3 v4 I h
    have h2 : none = some res := h
    cases h2
  | succ nf ih =>
    intro v1 v3 v4 I h
    rw [fm_feed_L41] at h
    refine zg_iload dd_169_41 (j := 3) rfl ?_
    refine zg_iload_n dd_169_43 rfl (j := 2) rfl ?_
    refine zg_icmp_ge (tgt := 92) dd_169_44 (by decide) (fun q5 => ?_) (fun q5 => ?_)
    · replace h := z_t h q5
      refine zg_aload_n dd_169_92 rfl (j := 0) rfl ?_
      refine zg_getR dd_169_93 zl_M_9 zMs_0 rfl zMr_0_0 ?_
      refine zg_bipush dd_169_96 kB_6 ?_
      refine zg_iald (w := (I 1 (6 : Int32).toNatClampNeg)) dd_169_98 zMs_1 (by decide) rfl ?_
      obtain rfl := Option.some.inj h
      exact zg_iret dd_169_99 rfl
    · replace h := z_f h q5
      refine zg_aload_n dd_169_47 rfl (j := 0) rfl ?_
      refine zg_getR dd_169_48 zl_M_9 zMs_0 rfl zMr_0_0 ?_
      refine zg_sipush dd_169_51 kS_240 ?_
      refine zg_aload_n dd_169_54 rfl (j := 0) rfl ?_
      refine zg_getR dd_169_55 zl_M_9 zMs_0 rfl zMr_0_0 ?_
      refine zg_bipush dd_169_58 kB_6 ?_
      refine zg_iald (w := (I 1 (6 : Int32).toNatClampNeg)) dd_169_60 zMs_1 (by decide) rfl ?_
      refine zg_iadd dd_169_61 ?_
      refine zg_lload_n dd_169_62 rfl (j := 1) rfl ?_
      refine zg_bipush dd_169_63 kB_8 ?_
      refine zg_iload dd_169_65 (j := 3) rfl ?_
      refine zg_imul dd_169_67 ?_
      refine zg_lshr dd_169_68 ?_
      refine zg_ldc2 dd_169_69 zw_1256 ?_
      refine zg_land dd_169_72 ?_
      refine zg_l2i dd_169_73 ?_
      obtain ⟨g6, h⟩ := z_gd h
      refine zg_iast dd_169_74 zMs_1 g6 ?_
      refine zg_aload_n dd_169_75 rfl (j := 0) rfl ?_
      refine zg_getR dd_169_76 zl_M_9 zMs_0 rfl zMr_0_0 ?_
      refine zg_bipush dd_169_79 kB_6 ?_
      refine zg_dup2 dd_169_81 rfl rfl ?_
      refine zg_iald (w := ((zup I 1 ((240 : Int32) + (I 1 (6 : Int32).toNatClampNeg)).toNatClampNeg (Int64.toInt32 ((zlshr v1 ((8 : Int32) * v4)) &&& (255 : Int64)))) 1 (6 : Int32).toNatClampNeg)) dd_169_82 zMs_1 (by decide) rfl ?_
      refine zg_iconst dd_169_83 kI_1 ?_
      refine zg_iadd dd_169_84 ?_
      refine zg_iast dd_169_85 zMs_1 (by decide) ?_
      refine zg_iinc dd_169_86 (j := 3) rfl (v := (v4 + (1 : Int32))) (by rw [kI_1]) (Nat.le_of_ble_eq_true rfl) (lv' := [(4, .inl (v4 + (1 : Int32))), (0, .inr (.inr (some 0))), (1, .inr (.inl v1)), (3, .inl v3)]) rfl ?_
      refine zg_goto (tgt := 41) dd_169_89 (by decide) ?_
      refine zg_sub [1, 2, 3, 0] rfl ?_
      exact ih _ _ _ _ h
set_option maxRecDepth 20000 in
theorem mt_fm_feed {I : zI} {a1 : Int64} {a3 : Int32} {res : (Int32 × zI)} (h : fm_feed I a1 a3 = some res) : zM 2 ym_169 [.inr (.inr (some 0)), .inr (.inl a1), .inl a3] (zMs, zMr, I) (some (.inl res.1)) (zMs, zMr, res.2) 0 0 := by
  refine zM_of (by decide) (Nat.le_of_ble_eq_true rfl) (lv := [(0, .inr (.inr (some 0))), (1, .inr (.inl a1)), (3, .inl a3)]) rfl ?_
  rw [fm_feed] at h
  refine zg_iload_n dd_169_0 rfl (j := 2) rfl ?_
  refine zg_iconst dd_169_1 kI_1 ?_
  refine zg_bipush dd_169_2 kB_8 ?_
  obtain ⟨r1, e2, h⟩ := z_bd h
  refine zg_invS_i (av := [.inl a3, .inl (1 : Int32), .inl (8 : Int32)]) (st := []) (n := 3) dd_169_4 ca_141 zw_1136 zw_1137 (mt_fm_within e2) rfl ⟨by decide +kernel, by decide⟩ (Nat.le_of_ble_eq_true rfl) ?_
  refine zg_if_ne (tgt := 17) dd_169_7 (by decide) (fun q3 => ?_) (fun q3 => ?_)
  · replace h := z_f h q3
    refine zg_aload_n dd_169_17 rfl (j := 0) rfl ?_
    refine zg_getR dd_169_18 zl_M_9 zMs_0 rfl zMr_0_0 ?_
    refine zg_bipush dd_169_21 kB_6 ?_
    refine zg_iald (w := (I 1 (6 : Int32).toNatClampNeg)) dd_169_23 zMs_1 (by decide) rfl ?_
    refine zg_iload_n dd_169_24 rfl (j := 2) rfl ?_
    refine zg_iadd dd_169_25 ?_
    refine zg_bipush dd_169_26 kB_60 ?_
    refine zg_icmp_le (tgt := 38) dd_169_28 (by decide) (fun q4 => ?_) (fun q4 => ?_)
    · replace h := z_t h q4
      refine zg_iconst dd_169_38 kI_0 ?_
      refine zg_istore dd_169_39 (Nat.le_of_ble_eq_true rfl) (lv' := [(4, .inl (0 : Int32)), (0, .inr (.inr (some 0))), (1, .inr (.inl a1)), (3, .inl a3)]) rfl ?_
      refine zg_sub [1, 2, 3, 0] rfl ?_
      refine lt_fm_feed_L41  _ _ _ _ _ h
    · replace h := z_f h q4
      refine zg_aload_n dd_169_31 rfl (j := 0) rfl ?_
      refine zg_ldc dd_169_32 zw_1145 ?_
      obtain ⟨r7, e8, h⟩ := z_bd h
      refine zg_invV_i (av := [.inl (-1000004 : Int32)]) (st := []) (n := 1) dd_169_34 ca_142 zw_1140 zw_1142 zv_31 zMs_0 zcl_12 rfl (mt_fm_finding e8) rfl ⟨by decide +kernel, by decide⟩ (Nat.le_of_ble_eq_true rfl) ?_
      obtain rfl := Option.some.inj h
      exact zg_iret dd_169_37 rfl
  · replace h := z_t h q3
    refine zg_aload_n dd_169_10 rfl (j := 0) rfl ?_
    refine zg_ldc dd_169_11 zw_1139 ?_
    obtain ⟨r9, e10, h⟩ := z_bd h
    refine zg_invV_i (av := [.inl (-1000001 : Int32)]) (st := []) (n := 1) dd_169_13 ca_142 zw_1140 zw_1142 zv_31 zMs_0 zcl_12 rfl (mt_fm_finding e10) rfl ⟨by decide +kernel, by decide⟩ (Nat.le_of_ble_eq_true rfl) ?_
    obtain rfl := Option.some.inj h
    exact zg_iret dd_169_16 rfl
/-! TurnedLandModel.here[0] -/
def fm_here (I : zI) : Option Int32 :=
  if (I 0 9) = 0 then
    if (I 1 (6 : Int32).toNatClampNeg) ≤ (I 0 6) then
      some (-1 : Int32)
    else
      z_guard (zb ((240 : Int32) + (I 0 6)) 448) <|
      some (I 1 ((240 : Int32) + (I 0 6)).toNatClampNeg)
  else
    some (-1 : Int32)
set_option maxRecDepth 20000 in
theorem mt_fm_here {I : zI} {res : Int32} (h : fm_here I = some res) : zM 1 ym_178 [.inr (.inr (some 0))] (zMs, zMr, I) (some (.inl res)) (zMs, zMr, I) 0 0 := by
  refine zM_of (by decide) (Nat.le_of_ble_eq_true rfl) (lv := [(0, .inr (.inr (some 0)))]) rfl ?_
  rw [fm_here] at h
  refine zg_aload_n dd_178_0 rfl (j := 0) rfl ?_
  refine zg_getI (x := (I 0 9)) dd_178_1 zl_M_145 zMs_0 rfl rfl ?_
  refine zg_if_ne (tgt := 37) dd_178_4 (by decide) (fun q1 => ?_) (fun q1 => ?_)
  · replace h := z_f h q1
    refine zg_iconst dd_178_37 kI_m1 ?_
    obtain rfl := Option.some.inj h
    exact zg_iret dd_178_38 rfl
  · replace h := z_t h q1
    refine zg_aload_n dd_178_7 rfl (j := 0) rfl ?_
    refine zg_getI (x := (I 0 6)) dd_178_8 zl_M_149 zMs_0 rfl rfl ?_
    refine zg_aload_n dd_178_11 rfl (j := 0) rfl ?_
    refine zg_getR dd_178_12 zl_M_9 zMs_0 rfl zMr_0_0 ?_
    refine zg_bipush dd_178_15 kB_6 ?_
    refine zg_iald (w := (I 1 (6 : Int32).toNatClampNeg)) dd_178_17 zMs_1 (by decide) rfl ?_
    refine zg_icmp_ge (tgt := 37) dd_178_18 (by decide) (fun q2 => ?_) (fun q2 => ?_)
    · replace h := z_t h q2
      refine zg_iconst dd_178_37 kI_m1 ?_
      obtain rfl := Option.some.inj h
      exact zg_iret dd_178_38 rfl
    · replace h := z_f h q2
      refine zg_aload_n dd_178_21 rfl (j := 0) rfl ?_
      refine zg_getR dd_178_22 zl_M_9 zMs_0 rfl zMr_0_0 ?_
      refine zg_sipush dd_178_25 kS_240 ?_
      refine zg_aload_n dd_178_28 rfl (j := 0) rfl ?_
      refine zg_getI (x := (I 0 6)) dd_178_29 zl_M_149 zMs_0 rfl rfl ?_
      refine zg_iadd dd_178_32 ?_
      obtain ⟨g3, h⟩ := z_gd h
      refine zg_iald (w := (I 1 ((240 : Int32) + (I 0 6)).toNatClampNeg)) dd_178_33 zMs_1 g3 rfl ?_
      refine zg_goto (tgt := 38) dd_178_34 (by decide) ?_
      obtain rfl := Option.some.inj h
      exact zg_iret dd_178_38 rfl
/-! TurnedLandModel.takes[0, None] -/
def fm_takes (I : zI) (a1 : Int32) : Option (Int32 × zI) :=
  (fm_here I).bind fun r1 =>
  if r1 = a1 then
    some ((1 : Int32), (zup I 0 6 ((I 0 6) + (1 : Int32))))
  else
    some ((0 : Int32), (zup I 0 6 ((I 0 6) + (0 : Int32))))
set_option maxRecDepth 20000 in
theorem mt_fm_takes {I : zI} {a1 : Int32} {res : (Int32 × zI)} (h : fm_takes I a1 = some res) : zM 2 ym_177 [.inr (.inr (some 0)), .inl a1] (zMs, zMr, I) (some (.inl res.1)) (zMs, zMr, res.2) 0 0 := by
  refine zM_of (by decide) (Nat.le_of_ble_eq_true rfl) (lv := [(0, .inr (.inr (some 0))), (1, .inl a1)]) rfl ?_
  rw [fm_takes] at h
  refine zg_aload_n dd_177_0 rfl (j := 0) rfl ?_
  obtain ⟨r1, e2, h⟩ := z_bd h
  refine zg_invV_i (av := []) (st := []) (n := 0) dd_177_1 ca_178 zw_1285 zw_1287 zv_54 zMs_0 zcl_12 rfl (mt_fm_here e2) rfl ⟨by decide +kernel, by decide⟩ (Nat.le_of_ble_eq_true rfl) ?_
  refine zg_iload_n dd_177_4 rfl (j := 1) rfl ?_
  refine zg_icmp_ne (tgt := 12) dd_177_5 (by decide) (fun q3 => ?_) (fun q3 => ?_)
  · replace h := z_f h q3
    refine zg_iconst dd_177_12 kI_0 ?_
    refine zg_istore_n dd_177_13 rfl (Nat.le_of_ble_eq_true rfl) (lv' := [(2, .inl (0 : Int32)), (0, .inr (.inr (some 0))), (1, .inl a1)]) rfl ?_
    refine zg_aload_n dd_177_14 rfl (j := 1) rfl ?_
    refine zg_dup dd_177_15 rfl ?_
    refine zg_getI (x := (I 0 6)) dd_177_16 zl_M_149 zMs_0 rfl rfl ?_
    refine zg_iload_n dd_177_19 rfl (j := 0) rfl ?_
    refine zg_if_eq (tgt := 27) dd_177_20 (by decide) (fun _ => ?_) (fun q4 => absurd q4 (by decide))
    refine zg_iconst dd_177_27 kI_0 ?_
    refine zg_iadd dd_177_28 ?_
    refine zg_putI dd_177_29 zp_M_149 zMs_0 rfl (zSt_int _) ?_
    refine zg_iload_n dd_177_32 rfl (j := 0) rfl ?_
    obtain rfl := Option.some.inj h
    exact zg_zret dd_177_33 rfl zSt_b0.1
  · replace h := z_t h q3
    refine zg_iconst dd_177_8 kI_1 ?_
    refine zg_goto (tgt := 13) dd_177_9 (by decide) ?_
    refine zg_istore_n dd_177_13 rfl (Nat.le_of_ble_eq_true rfl) (lv' := [(2, .inl (1 : Int32)), (0, .inr (.inr (some 0))), (1, .inl a1)]) rfl ?_
    refine zg_aload_n dd_177_14 rfl (j := 1) rfl ?_
    refine zg_dup dd_177_15 rfl ?_
    refine zg_getI (x := (I 0 6)) dd_177_16 zl_M_149 zMs_0 rfl rfl ?_
    refine zg_iload_n dd_177_19 rfl (j := 0) rfl ?_
    refine zg_if_eq (tgt := 27) dd_177_20 (by decide) (fun q5 => absurd q5 (by decide)) (fun _ => ?_)
    refine zg_iconst dd_177_23 kI_1 ?_
    refine zg_goto (tgt := 28) dd_177_24 (by decide) ?_
    refine zg_iadd dd_177_28 ?_
    refine zg_putI dd_177_29 zp_M_149 zMs_0 rfl (zSt_int _) ?_
    refine zg_iload_n dd_177_32 rfl (j := 0) rfl ?_
    obtain rfl := Option.some.inj h
    exact zg_zret dd_177_33 rfl zSt_b1.1
/-! TurnedLandModel.codes[0, None] -/
def fm_codes (I : zI) (a1 : Int32) : Option zI :=
  if (I 0 9) = 0 then
    z_guard (zb (I 0 11) 60) <|
    some (zup (zup I 6 (I 0 11).toNatClampNeg a1) 0 11 ((I 0 11) + (1 : Int32)))
  else
    some I
set_option maxRecDepth 20000 in
theorem mt_fm_codes {I : zI} {a1 : Int32} {res : zI} (h : fm_codes I a1 = some res) : zM 1 ym_179 [.inr (.inr (some 0)), .inl a1] (zMs, zMr, I) none (zMs, zMr, res) 0 0 := by
  refine zM_of (by decide) (Nat.le_of_ble_eq_true rfl) (lv := [(0, .inr (.inr (some 0))), (1, .inl a1)]) rfl ?_
  rw [fm_codes] at h
  refine zg_aload_n dd_179_0 rfl (j := 0) rfl ?_
  refine zg_getI (x := (I 0 9)) dd_179_1 zl_M_145 zMs_0 rfl rfl ?_
  refine zg_if_ne (tgt := 27) dd_179_4 (by decide) (fun q1 => ?_) (fun q1 => ?_)
  · replace h := z_f h q1
    obtain rfl := Option.some.inj h
    exact zg_vret dd_179_27 rfl
  · replace h := z_t h q1
    refine zg_aload_n dd_179_7 rfl (j := 0) rfl ?_
    refine zg_getR dd_179_8 zl_M_32 zMs_0 rfl zMr_0_10 ?_
    refine zg_aload_n dd_179_11 rfl (j := 0) rfl ?_
    refine zg_getI (x := (I 0 11)) dd_179_12 zl_M_156 zMs_0 rfl rfl ?_
    refine zg_iload_n dd_179_15 rfl (j := 1) rfl ?_
    obtain ⟨g2, h⟩ := z_gd h
    refine zg_iast dd_179_16 zMs_6 g2 ?_
    refine zg_aload_n dd_179_17 rfl (j := 0) rfl ?_
    refine zg_dup dd_179_18 rfl ?_
    refine zg_getI (x := (I 0 11)) dd_179_19 zl_M_156 zMs_0 rfl rfl ?_
    refine zg_iconst dd_179_22 kI_1 ?_
    refine zg_iadd dd_179_23 ?_
    refine zg_putI dd_179_24 zp_M_156 zMs_0 rfl (zSt_int _) ?_
    obtain rfl := Option.some.inj h
    exact zg_vret dd_179_27 rfl
/-! TurnedLandModel.product[0] -/
def fm_product_L51 (rc : zI → Option zI) : Nat → Int32 → zI → Option zI
  | 0, _, _ => none
  | nf + 1, v1, I =>
    if v1 ≤ 0 then
      some I
    else
      (rc I).bind fun r13 =>
      (fm_codes r13 v1).bind fun r15 =>
      (fm_takes r15 (42 : Int32)).bind fun r17 =>
      if r17.1 = 0 then
        (fm_takes r17.2 (47 : Int32)).bind fun r20 =>
        if r20.1 = 0 then
          (fm_takes r20.2 (37 : Int32)).bind fun r23 =>
          if r23.1 = 0 then
            fm_product_L51 rc nf (0 : Int32) r23.2
          else
            fm_product_L51 rc nf (20009 : Int32) r23.2
        else
          fm_product_L51 rc nf (20008 : Int32) r20.2
      else
        fm_product_L51 rc nf (20007 : Int32) r17.2
def fm_product_J50 (rc : zI → Option zI) (I : zI) (x0 : Int32) : Option zI :=
  fm_product_L51 rc
    100 x0 I
def fm_product (rc : zI → Option zI) (I : zI) : Option zI :=
  (rc I).bind fun r1 =>
  (fm_takes r1 (42 : Int32)).bind fun r3 =>
  if r3.1 = 0 then
    (fm_takes r3.2 (47 : Int32)).bind fun r6 =>
    if r6.1 = 0 then
      (fm_takes r6.2 (37 : Int32)).bind fun r9 =>
      if r9.1 = 0 then
        fm_product_J50 rc r9.2 (0 : Int32)
      else
        fm_product_J50 rc r9.2 (20009 : Int32)
    else
      fm_product_J50 rc r6.2 (20008 : Int32)
  else
    fm_product_J50 rc r3.2 (20007 : Int32)
set_option maxRecDepth 20000 in
theorem lt_fm_product_L51 {rc : zI → Option zI} {dd : Nat} (hrc : ∀ (I : zI) (res : zI), rc I = some res → zM dd ym_176 [.inr (.inr (some 0))] (zMs, zMr, I) none (zMs, zMr, res) 0 0) {res : zI} : ∀ (nf : Nat) (v1 : Int32) (I : zI), fm_product_L51 rc nf v1 I = some res → zG (dd + 3) ym_175 0 0 none (zMs, zMr, res) zMs.length 51 [(0, .inr (.inr (some 0))), (1, .inl v1)] [] (zMs, zMr, I) 0 0 := by
  intro nf
  induction nf with
  | zero =>
    intro v1 I h
    have h2 : none = some res := h
    cases h2
  | succ nf ih =>
    intro v1 I h
    rw [fm_product_L51] at h
    refine zg_iload_n dd_175_51 rfl (j := 1) rfl ?_
    refine zg_if_le (tgt := 114) dd_175_52 (by decide) (fun q12 => ?_) (fun q12 => ?_)
    · replace h := z_t h q12
      obtain rfl := Option.some.inj h
      exact zg_vret dd_175_114 rfl
    · replace h := z_f h q12
      refine zg_aload_n dd_175_55 rfl (j := 0) rfl ?_
      obtain ⟨r13, e14, h⟩ := z_bd h
      refine zg_invV_v (av := []) (st := []) (n := 0) dd_175_56 ca_176 zw_1281 zw_1283 zv_53 zMs_0 zcl_12 rfl (hrc _ _ e14) rfl ⟨by omega, by decide⟩ (Nat.le_of_ble_eq_true rfl) ?_
      refine zg_aload_n dd_175_59 rfl (j := 0) rfl ?_
      refine zg_iload_n dd_175_60 rfl (j := 1) rfl ?_
      obtain ⟨r15, e16, h⟩ := z_bd h
      refine zg_invV_v (av := [.inl v1]) (st := []) (n := 1) dd_175_61 ca_179 zw_1289 zw_1291 zv_55 zMs_0 zcl_12 rfl (mt_fm_codes e16) rfl ⟨by omega, by decide⟩ (Nat.le_of_ble_eq_true rfl) ?_
      refine zg_aload_n dd_175_64 rfl (j := 0) rfl ?_
      refine zg_bipush dd_175_65 kB_42 ?_
      obtain ⟨r17, e18, h⟩ := z_bd h
      refine zg_invV_i (av := [.inl (42 : Int32)]) (st := []) (n := 1) dd_175_67 ca_177 zw_1293 zw_1295 zv_56 zMs_0 zcl_12 rfl (mt_fm_takes e18) rfl ⟨by omega, by decide⟩ (Nat.le_of_ble_eq_true rfl) ?_
      refine zg_if_eq (tgt := 79) dd_175_70 (by decide) (fun q19 => ?_) (fun q19 => ?_)
      · replace h := z_t h q19
        refine zg_aload_n dd_175_79 rfl (j := 0) rfl ?_
        refine zg_bipush dd_175_80 kB_47 ?_
        obtain ⟨r20, e21, h⟩ := z_bd h
        refine zg_invV_i (av := [.inl (47 : Int32)]) (st := []) (n := 1) dd_175_82 ca_177 zw_1293 zw_1295 zv_56 zMs_0 zcl_12 rfl (mt_fm_takes e21) rfl ⟨by omega, by decide⟩ (Nat.le_of_ble_eq_true rfl) ?_
        refine zg_if_eq (tgt := 94) dd_175_85 (by decide) (fun q22 => ?_) (fun q22 => ?_)
        · replace h := z_t h q22
          refine zg_aload_n dd_175_94 rfl (j := 0) rfl ?_
          refine zg_bipush dd_175_95 kB_37 ?_
          obtain ⟨r23, e24, h⟩ := z_bd h
          refine zg_invV_i (av := [.inl (37 : Int32)]) (st := []) (n := 1) dd_175_97 ca_177 zw_1293 zw_1295 zv_56 zMs_0 zcl_12 rfl (mt_fm_takes e24) rfl ⟨by omega, by decide⟩ (Nat.le_of_ble_eq_true rfl) ?_
          refine zg_if_eq (tgt := 109) dd_175_100 (by decide) (fun q25 => ?_) (fun q25 => ?_)
          · replace h := z_t h q25
            refine zg_iconst dd_175_109 kI_0 ?_
            refine zg_istore_n dd_175_110 rfl (Nat.le_of_ble_eq_true rfl) (lv' := [(1, .inl (0 : Int32)), (0, .inr (.inr (some 0)))]) rfl ?_
            refine zg_goto (tgt := 51) dd_175_111 (by decide) ?_
            refine zg_sub [1, 0] rfl ?_
            exact ih _ _ h
          · replace h := z_f h q25
            refine zg_sipush dd_175_103 kS_20009 ?_
            refine zg_goto (tgt := 110) dd_175_106 (by decide) ?_
            refine zg_istore_n dd_175_110 rfl (Nat.le_of_ble_eq_true rfl) (lv' := [(1, .inl (20009 : Int32)), (0, .inr (.inr (some 0)))]) rfl ?_
            refine zg_goto (tgt := 51) dd_175_111 (by decide) ?_
            refine zg_sub [1, 0] rfl ?_
            exact ih _ _ h
        · replace h := z_f h q22
          refine zg_sipush dd_175_88 kS_20008 ?_
          refine zg_goto (tgt := 110) dd_175_91 (by decide) ?_
          refine zg_istore_n dd_175_110 rfl (Nat.le_of_ble_eq_true rfl) (lv' := [(1, .inl (20008 : Int32)), (0, .inr (.inr (some 0)))]) rfl ?_
          refine zg_goto (tgt := 51) dd_175_111 (by decide) ?_
          refine zg_sub [1, 0] rfl ?_
          exact ih _ _ h
      · replace h := z_f h q19
        refine zg_sipush dd_175_73 kS_20007 ?_
        refine zg_goto (tgt := 110) dd_175_76 (by decide) ?_
        refine zg_istore_n dd_175_110 rfl (Nat.le_of_ble_eq_true rfl) (lv' := [(1, .inl (20007 : Int32)), (0, .inr (.inr (some 0)))]) rfl ?_
        refine zg_goto (tgt := 51) dd_175_111 (by decide) ?_
        refine zg_sub [1, 0] rfl ?_
        exact ih _ _ h
set_option maxRecDepth 20000 in
theorem jt_fm_product_J50 {rc : zI → Option zI} {dd : Nat} (hrc : ∀ (I : zI) (res : zI), rc I = some res → zM dd ym_176 [.inr (.inr (some 0))] (zMs, zMr, I) none (zMs, zMr, res) 0 0) {res : zI} {I : zI} {x0 : Int32} (h : fm_product_J50 rc I x0 = some res) : zG (dd + 3) ym_175 0 0 none (zMs, zMr, res) zMs.length 50 [(0, .inr (.inr (some 0)))] [.inl x0] (zMs, zMr, I) 0 0 := by
  rw [fm_product_J50] at h
  refine zg_istore_n dd_175_50 rfl (Nat.le_of_ble_eq_true rfl) (lv' := [(1, .inl x0), (0, .inr (.inr (some 0)))]) rfl ?_
  refine zg_sub [1, 0] rfl ?_
  refine lt_fm_product_L51 hrc  _ _ _ h
set_option maxRecDepth 20000 in
theorem mt_fm_product {rc : zI → Option zI} {dd : Nat} (hrc : ∀ (I : zI) (res : zI), rc I = some res → zM dd ym_176 [.inr (.inr (some 0))] (zMs, zMr, I) none (zMs, zMr, res) 0 0) {I : zI} {res : zI} (h : fm_product rc I = some res) : zM (dd + 3) ym_175 [.inr (.inr (some 0))] (zMs, zMr, I) none (zMs, zMr, res) 0 0 := by
  refine zM_of (by decide) (Nat.le_of_ble_eq_true rfl) (lv := [(0, .inr (.inr (some 0)))]) rfl ?_
  rw [fm_product] at h
  refine zg_aload_n dd_175_0 rfl (j := 0) rfl ?_
  obtain ⟨r1, e2, h⟩ := z_bd h
  refine zg_invV_v (av := []) (st := []) (n := 0) dd_175_1 ca_176 zw_1281 zw_1283 zv_53 zMs_0 zcl_12 rfl (hrc _ _ e2) rfl ⟨by omega, by decide⟩ (Nat.le_of_ble_eq_true rfl) ?_
  refine zg_aload_n dd_175_4 rfl (j := 0) rfl ?_
  refine zg_bipush dd_175_5 kB_42 ?_
  obtain ⟨r3, e4, h⟩ := z_bd h
  refine zg_invV_i (av := [.inl (42 : Int32)]) (st := []) (n := 1) dd_175_7 ca_177 zw_1293 zw_1295 zv_56 zMs_0 zcl_12 rfl (mt_fm_takes e4) rfl ⟨by omega, by decide⟩ (Nat.le_of_ble_eq_true rfl) ?_
  refine zg_if_eq (tgt := 19) dd_175_10 (by decide) (fun q5 => ?_) (fun q5 => ?_)
  · replace h := z_t h q5
    refine zg_aload_n dd_175_19 rfl (j := 0) rfl ?_
    refine zg_bipush dd_175_20 kB_47 ?_
    obtain ⟨r6, e7, h⟩ := z_bd h
    refine zg_invV_i (av := [.inl (47 : Int32)]) (st := []) (n := 1) dd_175_22 ca_177 zw_1293 zw_1295 zv_56 zMs_0 zcl_12 rfl (mt_fm_takes e7) rfl ⟨by omega, by decide⟩ (Nat.le_of_ble_eq_true rfl) ?_
    refine zg_if_eq (tgt := 34) dd_175_25 (by decide) (fun q8 => ?_) (fun q8 => ?_)
    · replace h := z_t h q8
      refine zg_aload_n dd_175_34 rfl (j := 0) rfl ?_
      refine zg_bipush dd_175_35 kB_37 ?_
      obtain ⟨r9, e10, h⟩ := z_bd h
      refine zg_invV_i (av := [.inl (37 : Int32)]) (st := []) (n := 1) dd_175_37 ca_177 zw_1293 zw_1295 zv_56 zMs_0 zcl_12 rfl (mt_fm_takes e10) rfl ⟨by omega, by decide⟩ (Nat.le_of_ble_eq_true rfl) ?_
      refine zg_if_eq (tgt := 49) dd_175_40 (by decide) (fun q11 => ?_) (fun q11 => ?_)
      · replace h := z_t h q11
        refine zg_iconst dd_175_49 kI_0 ?_
        refine zg_sub [0] rfl ?_
        exact jt_fm_product_J50 hrc h
      · replace h := z_f h q11
        refine zg_sipush dd_175_43 kS_20009 ?_
        refine zg_goto (tgt := 50) dd_175_46 (by decide) ?_
        refine zg_sub [0] rfl ?_
        exact jt_fm_product_J50 hrc h
    · replace h := z_f h q8
      refine zg_sipush dd_175_28 kS_20008 ?_
      refine zg_goto (tgt := 50) dd_175_31 (by decide) ?_
      refine zg_sub [0] rfl ?_
      exact jt_fm_product_J50 hrc h
  · replace h := z_f h q5
    refine zg_sipush dd_175_13 kS_20007 ?_
    refine zg_goto (tgt := 50) dd_175_16 (by decide) ?_
    refine zg_sub [0] rfl ?_
    exact jt_fm_product_J50 hrc h
/-! TurnedLandModel.sum[0] -/
def fm_sum_L36 (rc : zI → Option zI) : Nat → Int32 → zI → Option zI
  | 0, _, _ => none
  | nf + 1, v1, I =>
    if v1 ≤ 0 then
      some I
    else
      (fm_product rc I).bind fun r10 =>
      (fm_codes r10 v1).bind fun r12 =>
      (fm_takes r12 (43 : Int32)).bind fun r14 =>
      if r14.1 = 0 then
        (fm_takes r14.2 (45 : Int32)).bind fun r17 =>
        if r17.1 = 0 then
          fm_sum_L36 rc nf (0 : Int32) r17.2
        else
          fm_sum_L36 rc nf (20006 : Int32) r17.2
      else
        fm_sum_L36 rc nf (20005 : Int32) r14.2
def fm_sum (rc : zI → Option zI) (I : zI) : Option zI :=
  (fm_product rc I).bind fun r1 =>
  (fm_takes r1 (43 : Int32)).bind fun r3 =>
  if r3.1 = 0 then
    (fm_takes r3.2 (45 : Int32)).bind fun r6 =>
    if r6.1 = 0 then
      fm_sum_L36 rc
        100 (0 : Int32) r6.2
    else
      fm_sum_L36 rc
        100 (20006 : Int32) r6.2
  else
    fm_sum_L36 rc
      100 (20005 : Int32) r3.2
set_option maxRecDepth 20000 in
theorem lt_fm_sum_L36 {rc : zI → Option zI} {dd : Nat} (hrc : ∀ (I : zI) (res : zI), rc I = some res → zM dd ym_176 [.inr (.inr (some 0))] (zMs, zMr, I) none (zMs, zMr, res) 0 0) {res : zI} : ∀ (nf : Nat) (v1 : Int32) (I : zI), fm_sum_L36 rc nf v1 I = some res → zG (dd + 4) ym_174 0 0 none (zMs, zMr, res) zMs.length 36 [(0, .inr (.inr (some 0))), (1, .inl v1)] [] (zMs, zMr, I) 0 0 := by
  intro nf
  induction nf with
  | zero =>
    intro v1 I h
    have h2 : none = some res := h
    cases h2
  | succ nf ih =>
    intro v1 I h
    rw [fm_sum_L36] at h
    refine zg_iload_n dd_174_36 rfl (j := 1) rfl ?_
    refine zg_if_le (tgt := 84) dd_174_37 (by decide) (fun q9 => ?_) (fun q9 => ?_)
    · replace h := z_t h q9
      obtain rfl := Option.some.inj h
      exact zg_vret dd_174_84 rfl
    · replace h := z_f h q9
      refine zg_aload_n dd_174_40 rfl (j := 0) rfl ?_
      obtain ⟨r10, e11, h⟩ := z_bd h
      refine zg_invV_v (av := []) (st := []) (n := 0) dd_174_41 ca_175 zw_1277 zw_1279 zv_52 zMs_0 zcl_12 rfl (mt_fm_product hrc e11) rfl ⟨by omega, by decide⟩ (Nat.le_of_ble_eq_true rfl) ?_
      refine zg_aload_n dd_174_44 rfl (j := 0) rfl ?_
      refine zg_iload_n dd_174_45 rfl (j := 1) rfl ?_
      obtain ⟨r12, e13, h⟩ := z_bd h
      refine zg_invV_v (av := [.inl v1]) (st := []) (n := 1) dd_174_46 ca_179 zw_1289 zw_1291 zv_55 zMs_0 zcl_12 rfl (mt_fm_codes e13) rfl ⟨by omega, by decide⟩ (Nat.le_of_ble_eq_true rfl) ?_
      refine zg_aload_n dd_174_49 rfl (j := 0) rfl ?_
      refine zg_bipush dd_174_50 kB_43 ?_
      obtain ⟨r14, e15, h⟩ := z_bd h
      refine zg_invV_i (av := [.inl (43 : Int32)]) (st := []) (n := 1) dd_174_52 ca_177 zw_1293 zw_1295 zv_56 zMs_0 zcl_12 rfl (mt_fm_takes e15) rfl ⟨by omega, by decide⟩ (Nat.le_of_ble_eq_true rfl) ?_
      refine zg_if_eq (tgt := 64) dd_174_55 (by decide) (fun q16 => ?_) (fun q16 => ?_)
      · replace h := z_t h q16
        refine zg_aload_n dd_174_64 rfl (j := 0) rfl ?_
        refine zg_bipush dd_174_65 kB_45 ?_
        obtain ⟨r17, e18, h⟩ := z_bd h
        refine zg_invV_i (av := [.inl (45 : Int32)]) (st := []) (n := 1) dd_174_67 ca_177 zw_1293 zw_1295 zv_56 zMs_0 zcl_12 rfl (mt_fm_takes e18) rfl ⟨by omega, by decide⟩ (Nat.le_of_ble_eq_true rfl) ?_
        refine zg_if_eq (tgt := 79) dd_174_70 (by decide) (fun q19 => ?_) (fun q19 => ?_)
        · replace h := z_t h q19
          refine zg_iconst dd_174_79 kI_0 ?_
          refine zg_istore_n dd_174_80 rfl (Nat.le_of_ble_eq_true rfl) (lv' := [(1, .inl (0 : Int32)), (0, .inr (.inr (some 0)))]) rfl ?_
          refine zg_goto (tgt := 36) dd_174_81 (by decide) ?_
          refine zg_sub [1, 0] rfl ?_
          exact ih _ _ h
        · replace h := z_f h q19
          refine zg_sipush dd_174_73 kS_20006 ?_
          refine zg_goto (tgt := 80) dd_174_76 (by decide) ?_
          refine zg_istore_n dd_174_80 rfl (Nat.le_of_ble_eq_true rfl) (lv' := [(1, .inl (20006 : Int32)), (0, .inr (.inr (some 0)))]) rfl ?_
          refine zg_goto (tgt := 36) dd_174_81 (by decide) ?_
          refine zg_sub [1, 0] rfl ?_
          exact ih _ _ h
      · replace h := z_f h q16
        refine zg_sipush dd_174_58 kS_20005 ?_
        refine zg_goto (tgt := 80) dd_174_61 (by decide) ?_
        refine zg_istore_n dd_174_80 rfl (Nat.le_of_ble_eq_true rfl) (lv' := [(1, .inl (20005 : Int32)), (0, .inr (.inr (some 0)))]) rfl ?_
        refine zg_goto (tgt := 36) dd_174_81 (by decide) ?_
        refine zg_sub [1, 0] rfl ?_
        exact ih _ _ h
set_option maxRecDepth 20000 in
theorem mt_fm_sum {rc : zI → Option zI} {dd : Nat} (hrc : ∀ (I : zI) (res : zI), rc I = some res → zM dd ym_176 [.inr (.inr (some 0))] (zMs, zMr, I) none (zMs, zMr, res) 0 0) {I : zI} {res : zI} (h : fm_sum rc I = some res) : zM (dd + 4) ym_174 [.inr (.inr (some 0))] (zMs, zMr, I) none (zMs, zMr, res) 0 0 := by
  refine zM_of (by decide) (Nat.le_of_ble_eq_true rfl) (lv := [(0, .inr (.inr (some 0)))]) rfl ?_
  rw [fm_sum] at h
  refine zg_aload_n dd_174_0 rfl (j := 0) rfl ?_
  obtain ⟨r1, e2, h⟩ := z_bd h
  refine zg_invV_v (av := []) (st := []) (n := 0) dd_174_1 ca_175 zw_1277 zw_1279 zv_52 zMs_0 zcl_12 rfl (mt_fm_product hrc e2) rfl ⟨by omega, by decide⟩ (Nat.le_of_ble_eq_true rfl) ?_
  refine zg_aload_n dd_174_4 rfl (j := 0) rfl ?_
  refine zg_bipush dd_174_5 kB_43 ?_
  obtain ⟨r3, e4, h⟩ := z_bd h
  refine zg_invV_i (av := [.inl (43 : Int32)]) (st := []) (n := 1) dd_174_7 ca_177 zw_1293 zw_1295 zv_56 zMs_0 zcl_12 rfl (mt_fm_takes e4) rfl ⟨by omega, by decide⟩ (Nat.le_of_ble_eq_true rfl) ?_
  refine zg_if_eq (tgt := 19) dd_174_10 (by decide) (fun q5 => ?_) (fun q5 => ?_)
  · replace h := z_t h q5
    refine zg_aload_n dd_174_19 rfl (j := 0) rfl ?_
    refine zg_bipush dd_174_20 kB_45 ?_
    obtain ⟨r6, e7, h⟩ := z_bd h
    refine zg_invV_i (av := [.inl (45 : Int32)]) (st := []) (n := 1) dd_174_22 ca_177 zw_1293 zw_1295 zv_56 zMs_0 zcl_12 rfl (mt_fm_takes e7) rfl ⟨by omega, by decide⟩ (Nat.le_of_ble_eq_true rfl) ?_
    refine zg_if_eq (tgt := 34) dd_174_25 (by decide) (fun q8 => ?_) (fun q8 => ?_)
    · replace h := z_t h q8
      refine zg_iconst dd_174_34 kI_0 ?_
      refine zg_istore_n dd_174_35 rfl (Nat.le_of_ble_eq_true rfl) (lv' := [(1, .inl (0 : Int32)), (0, .inr (.inr (some 0)))]) rfl ?_
      refine zg_sub [1, 0] rfl ?_
      refine lt_fm_sum_L36 hrc  _ _ _ h
    · replace h := z_f h q8
      refine zg_sipush dd_174_28 kS_20006 ?_
      refine zg_goto (tgt := 35) dd_174_31 (by decide) ?_
      refine zg_istore_n dd_174_35 rfl (Nat.le_of_ble_eq_true rfl) (lv' := [(1, .inl (20006 : Int32)), (0, .inr (.inr (some 0)))]) rfl ?_
      refine zg_sub [1, 0] rfl ?_
      refine lt_fm_sum_L36 hrc  _ _ _ h
  · replace h := z_f h q5
    refine zg_sipush dd_174_13 kS_20005 ?_
    refine zg_goto (tgt := 35) dd_174_16 (by decide) ?_
    refine zg_istore_n dd_174_35 rfl (Nat.le_of_ble_eq_true rfl) (lv' := [(1, .inl (20005 : Int32)), (0, .inr (.inr (some 0)))]) rfl ?_
    refine zg_sub [1, 0] rfl ?_
    refine lt_fm_sum_L36 hrc  _ _ _ h
/-! TurnedLandModel.compared[0] -/
def fm_compared (rc : zI → Option zI) (I : zI) : Option zI :=
  (fm_sum rc I).bind fun r1 =>
  (fm_takes r1 (60 : Int32)).bind fun r3 =>
  if r3.1 = 0 then
    (fm_takes r3.2 (61 : Int32)).bind fun r6 =>
    if r6.1 = 0 then
      (fm_takes r6.2 (62 : Int32)).bind fun r9 =>
      if r9.1 = 0 then
        some r9.2
      else
        (fm_sum rc r9.2).bind fun r14 =>
        (fm_codes r14 (20004 : Int32)).bind fun r16 =>
        some r16
    else
      (fm_sum rc r6.2).bind fun r19 =>
      (fm_codes r19 (20003 : Int32)).bind fun r21 =>
      some r21
  else
    (fm_sum rc r3.2).bind fun r24 =>
    (fm_codes r24 (20002 : Int32)).bind fun r26 =>
    some r26
set_option maxRecDepth 20000 in
theorem mt_fm_compared {rc : zI → Option zI} {dd : Nat} (hrc : ∀ (I : zI) (res : zI), rc I = some res → zM dd ym_176 [.inr (.inr (some 0))] (zMs, zMr, I) none (zMs, zMr, res) 0 0) {I : zI} {res : zI} (h : fm_compared rc I = some res) : zM (dd + 5) ym_173 [.inr (.inr (some 0))] (zMs, zMr, I) none (zMs, zMr, res) 0 0 := by
  refine zM_of (by decide) (Nat.le_of_ble_eq_true rfl) (lv := [(0, .inr (.inr (some 0)))]) rfl ?_
  rw [fm_compared] at h
  refine zg_aload_n dd_173_0 rfl (j := 0) rfl ?_
  obtain ⟨r1, e2, h⟩ := z_bd h
  refine zg_invV_v (av := []) (st := []) (n := 0) dd_173_1 ca_174 zw_1273 zw_1275 zv_51 zMs_0 zcl_12 rfl (mt_fm_sum hrc e2) rfl ⟨by omega, by decide⟩ (Nat.le_of_ble_eq_true rfl) ?_
  refine zg_aload_n dd_173_4 rfl (j := 0) rfl ?_
  refine zg_bipush dd_173_5 kB_60 ?_
  obtain ⟨r3, e4, h⟩ := z_bd h
  refine zg_invV_i (av := [.inl (60 : Int32)]) (st := []) (n := 1) dd_173_7 ca_177 zw_1293 zw_1295 zv_56 zMs_0 zcl_12 rfl (mt_fm_takes e4) rfl ⟨by omega, by decide⟩ (Nat.le_of_ble_eq_true rfl) ?_
  refine zg_if_eq (tgt := 19) dd_173_10 (by decide) (fun q5 => ?_) (fun q5 => ?_)
  · replace h := z_t h q5
    refine zg_aload_n dd_173_19 rfl (j := 0) rfl ?_
    refine zg_bipush dd_173_20 kB_61 ?_
    obtain ⟨r6, e7, h⟩ := z_bd h
    refine zg_invV_i (av := [.inl (61 : Int32)]) (st := []) (n := 1) dd_173_22 ca_177 zw_1293 zw_1295 zv_56 zMs_0 zcl_12 rfl (mt_fm_takes e7) rfl ⟨by omega, by decide⟩ (Nat.le_of_ble_eq_true rfl) ?_
    refine zg_if_eq (tgt := 34) dd_173_25 (by decide) (fun q8 => ?_) (fun q8 => ?_)
    · replace h := z_t h q8
      refine zg_aload_n dd_173_34 rfl (j := 0) rfl ?_
      refine zg_bipush dd_173_35 kB_62 ?_
      obtain ⟨r9, e10, h⟩ := z_bd h
      refine zg_invV_i (av := [.inl (62 : Int32)]) (st := []) (n := 1) dd_173_37 ca_177 zw_1293 zw_1295 zv_56 zMs_0 zcl_12 rfl (mt_fm_takes e10) rfl ⟨by omega, by decide⟩ (Nat.le_of_ble_eq_true rfl) ?_
      refine zg_if_eq (tgt := 49) dd_173_40 (by decide) (fun q11 => ?_) (fun q11 => ?_)
      · replace h := z_t h q11
        refine zg_iconst dd_173_49 kI_0 ?_
        refine zg_istore_n dd_173_50 rfl (Nat.le_of_ble_eq_true rfl) (lv' := [(1, .inl (0 : Int32)), (0, .inr (.inr (some 0)))]) rfl ?_
        refine zg_iload_n dd_173_51 rfl (j := 0) rfl ?_
        refine zg_if_le (tgt := 64) dd_173_52 (by decide) (fun _ => ?_) (fun q12 => absurd q12 (by decide))
        obtain rfl := Option.some.inj h
        exact zg_vret dd_173_64 rfl
      · replace h := z_f h q11
        refine zg_sipush dd_173_43 kS_20004 ?_
        refine zg_goto (tgt := 50) dd_173_46 (by decide) ?_
        refine zg_istore_n dd_173_50 rfl (Nat.le_of_ble_eq_true rfl) (lv' := [(1, .inl (20004 : Int32)), (0, .inr (.inr (some 0)))]) rfl ?_
        refine zg_iload_n dd_173_51 rfl (j := 0) rfl ?_
        refine zg_if_le (tgt := 64) dd_173_52 (by decide) (fun q13 => absurd q13 (by decide)) (fun _ => ?_)
        refine zg_aload_n dd_173_55 rfl (j := 1) rfl ?_
        obtain ⟨r14, e15, h⟩ := z_bd h
        refine zg_invV_v (av := []) (st := []) (n := 0) dd_173_56 ca_174 zw_1273 zw_1275 zv_51 zMs_0 zcl_12 rfl (mt_fm_sum hrc e15) rfl ⟨by omega, by decide⟩ (Nat.le_of_ble_eq_true rfl) ?_
        refine zg_aload_n dd_173_59 rfl (j := 1) rfl ?_
        refine zg_iload_n dd_173_60 rfl (j := 0) rfl ?_
        obtain ⟨r16, e17, h⟩ := z_bd h
        refine zg_invV_v (av := [.inl (20004 : Int32)]) (st := []) (n := 1) dd_173_61 ca_179 zw_1289 zw_1291 zv_55 zMs_0 zcl_12 rfl (mt_fm_codes e17) rfl ⟨by omega, by decide⟩ (Nat.le_of_ble_eq_true rfl) ?_
        obtain rfl := Option.some.inj h
        exact zg_vret dd_173_64 rfl
    · replace h := z_f h q8
      refine zg_sipush dd_173_28 kS_20003 ?_
      refine zg_goto (tgt := 50) dd_173_31 (by decide) ?_
      refine zg_istore_n dd_173_50 rfl (Nat.le_of_ble_eq_true rfl) (lv' := [(1, .inl (20003 : Int32)), (0, .inr (.inr (some 0)))]) rfl ?_
      refine zg_iload_n dd_173_51 rfl (j := 0) rfl ?_
      refine zg_if_le (tgt := 64) dd_173_52 (by decide) (fun q18 => absurd q18 (by decide)) (fun _ => ?_)
      refine zg_aload_n dd_173_55 rfl (j := 1) rfl ?_
      obtain ⟨r19, e20, h⟩ := z_bd h
      refine zg_invV_v (av := []) (st := []) (n := 0) dd_173_56 ca_174 zw_1273 zw_1275 zv_51 zMs_0 zcl_12 rfl (mt_fm_sum hrc e20) rfl ⟨by omega, by decide⟩ (Nat.le_of_ble_eq_true rfl) ?_
      refine zg_aload_n dd_173_59 rfl (j := 1) rfl ?_
      refine zg_iload_n dd_173_60 rfl (j := 0) rfl ?_
      obtain ⟨r21, e22, h⟩ := z_bd h
      refine zg_invV_v (av := [.inl (20003 : Int32)]) (st := []) (n := 1) dd_173_61 ca_179 zw_1289 zw_1291 zv_55 zMs_0 zcl_12 rfl (mt_fm_codes e22) rfl ⟨by omega, by decide⟩ (Nat.le_of_ble_eq_true rfl) ?_
      obtain rfl := Option.some.inj h
      exact zg_vret dd_173_64 rfl
  · replace h := z_f h q5
    refine zg_sipush dd_173_13 kS_20002 ?_
    refine zg_goto (tgt := 50) dd_173_16 (by decide) ?_
    refine zg_istore_n dd_173_50 rfl (Nat.le_of_ble_eq_true rfl) (lv' := [(1, .inl (20002 : Int32)), (0, .inr (.inr (some 0)))]) rfl ?_
    refine zg_iload_n dd_173_51 rfl (j := 0) rfl ?_
    refine zg_if_le (tgt := 64) dd_173_52 (by decide) (fun q23 => absurd q23 (by decide)) (fun _ => ?_)
    refine zg_aload_n dd_173_55 rfl (j := 1) rfl ?_
    obtain ⟨r24, e25, h⟩ := z_bd h
    refine zg_invV_v (av := []) (st := []) (n := 0) dd_173_56 ca_174 zw_1273 zw_1275 zv_51 zMs_0 zcl_12 rfl (mt_fm_sum hrc e25) rfl ⟨by omega, by decide⟩ (Nat.le_of_ble_eq_true rfl) ?_
    refine zg_aload_n dd_173_59 rfl (j := 1) rfl ?_
    refine zg_iload_n dd_173_60 rfl (j := 0) rfl ?_
    obtain ⟨r26, e27, h⟩ := z_bd h
    refine zg_invV_v (av := [.inl (20002 : Int32)]) (st := []) (n := 1) dd_173_61 ca_179 zw_1289 zw_1291 zv_55 zMs_0 zcl_12 rfl (mt_fm_codes e27) rfl ⟨by omega, by decide⟩ (Nat.le_of_ble_eq_true rfl) ?_
    obtain rfl := Option.some.inj h
    exact zg_vret dd_173_64 rfl
/-! TurnedLandModel.both[0] -/
def fm_both_L4 (rc : zI → Option zI) : Nat → zI → Option zI
  | 0, _ => none
  | nf + 1, I =>
    (fm_takes I (38 : Int32)).bind fun r3 =>
    if r3.1 = 0 then
      some r3.2
    else
      (fm_compared rc r3.2).bind fun r6 =>
      (fm_codes r6 (20001 : Int32)).bind fun r8 =>
      fm_both_L4 rc nf  r8
def fm_both (rc : zI → Option zI) (I : zI) : Option zI :=
  (fm_compared rc I).bind fun r1 =>
  fm_both_L4 rc
    100 r1
set_option maxRecDepth 20000 in
theorem lt_fm_both_L4 {rc : zI → Option zI} {dd : Nat} (hrc : ∀ (I : zI) (res : zI), rc I = some res → zM dd ym_176 [.inr (.inr (some 0))] (zMs, zMr, I) none (zMs, zMr, res) 0 0) {res : zI} : ∀ (nf : Nat) (I : zI), fm_both_L4 rc nf  I = some res → zG (dd + 6) ym_172 0 0 none (zMs, zMr, res) zMs.length 4 [(0, .inr (.inr (some 0)))] [] (zMs, zMr, I) 0 0 := by
  intro nf
  induction nf with
  | zero =>
    intro I h
    have h2 : none = some res := h
    cases h2
  | succ nf ih =>
    intro I h
    rw [fm_both_L4] at h
    refine zg_aload_n dd_172_4 rfl (j := 0) rfl ?_
    refine zg_bipush dd_172_5 kB_38 ?_
    obtain ⟨r3, e4, h⟩ := z_bd h
    refine zg_invV_i (av := [.inl (38 : Int32)]) (st := []) (n := 1) dd_172_7 ca_177 zw_1293 zw_1295 zv_56 zMs_0 zcl_12 rfl (mt_fm_takes e4) rfl ⟨by omega, by decide⟩ (Nat.le_of_ble_eq_true rfl) ?_
    refine zg_if_eq (tgt := 27) dd_172_10 (by decide) (fun q5 => ?_) (fun q5 => ?_)
    · replace h := z_t h q5
      obtain rfl := Option.some.inj h
      exact zg_vret dd_172_27 rfl
    · replace h := z_f h q5
      refine zg_aload_n dd_172_13 rfl (j := 0) rfl ?_
      obtain ⟨r6, e7, h⟩ := z_bd h
      refine zg_invV_v (av := []) (st := []) (n := 0) dd_172_14 ca_173 zw_1269 zw_1271 zv_50 zMs_0 zcl_12 rfl (mt_fm_compared hrc e7) rfl ⟨by omega, by decide⟩ (Nat.le_of_ble_eq_true rfl) ?_
      refine zg_aload_n dd_172_17 rfl (j := 0) rfl ?_
      refine zg_sipush dd_172_18 kS_20001 ?_
      obtain ⟨r8, e9, h⟩ := z_bd h
      refine zg_invV_v (av := [.inl (20001 : Int32)]) (st := []) (n := 1) dd_172_21 ca_179 zw_1289 zw_1291 zv_55 zMs_0 zcl_12 rfl (mt_fm_codes e9) rfl ⟨by omega, by decide⟩ (Nat.le_of_ble_eq_true rfl) ?_
      refine zg_goto (tgt := 4) dd_172_24 (by decide) ?_
      refine zg_sub [0] rfl ?_
      exact ih  _ h
set_option maxRecDepth 20000 in
theorem mt_fm_both {rc : zI → Option zI} {dd : Nat} (hrc : ∀ (I : zI) (res : zI), rc I = some res → zM dd ym_176 [.inr (.inr (some 0))] (zMs, zMr, I) none (zMs, zMr, res) 0 0) {I : zI} {res : zI} (h : fm_both rc I = some res) : zM (dd + 6) ym_172 [.inr (.inr (some 0))] (zMs, zMr, I) none (zMs, zMr, res) 0 0 := by
  refine zM_of (by decide) (Nat.le_of_ble_eq_true rfl) (lv := [(0, .inr (.inr (some 0)))]) rfl ?_
  rw [fm_both] at h
  refine zg_aload_n dd_172_0 rfl (j := 0) rfl ?_
  obtain ⟨r1, e2, h⟩ := z_bd h
  refine zg_invV_v (av := []) (st := []) (n := 0) dd_172_1 ca_173 zw_1269 zw_1271 zv_50 zMs_0 zcl_12 rfl (mt_fm_compared hrc e2) rfl ⟨by omega, by decide⟩ (Nat.le_of_ble_eq_true rfl) ?_
  refine zg_sub [0] rfl ?_
  refine lt_fm_both_L4 hrc  _  _ h
/-! TurnedLandModel.either[0] -/
def fm_either_L4 (rc : zI → Option zI) : Nat → zI → Option zI
  | 0, _ => none
  | nf + 1, I =>
    (fm_takes I (124 : Int32)).bind fun r3 =>
    if r3.1 = 0 then
      some r3.2
    else
      (fm_both rc r3.2).bind fun r6 =>
      (fm_codes r6 (20000 : Int32)).bind fun r8 =>
      fm_either_L4 rc nf  r8
def fm_either (rc : zI → Option zI) (I : zI) : Option zI :=
  (fm_both rc I).bind fun r1 =>
  fm_either_L4 rc
    100 r1
set_option maxRecDepth 20000 in
theorem lt_fm_either_L4 {rc : zI → Option zI} {dd : Nat} (hrc : ∀ (I : zI) (res : zI), rc I = some res → zM dd ym_176 [.inr (.inr (some 0))] (zMs, zMr, I) none (zMs, zMr, res) 0 0) {res : zI} : ∀ (nf : Nat) (I : zI), fm_either_L4 rc nf  I = some res → zG (dd + 7) ym_171 0 0 none (zMs, zMr, res) zMs.length 4 [(0, .inr (.inr (some 0)))] [] (zMs, zMr, I) 0 0 := by
  intro nf
  induction nf with
  | zero =>
    intro I h
    have h2 : none = some res := h
    cases h2
  | succ nf ih =>
    intro I h
    rw [fm_either_L4] at h
    refine zg_aload_n dd_171_4 rfl (j := 0) rfl ?_
    refine zg_bipush dd_171_5 kB_124 ?_
    obtain ⟨r3, e4, h⟩ := z_bd h
    refine zg_invV_i (av := [.inl (124 : Int32)]) (st := []) (n := 1) dd_171_7 ca_177 zw_1293 zw_1295 zv_56 zMs_0 zcl_12 rfl (mt_fm_takes e4) rfl ⟨by omega, by decide⟩ (Nat.le_of_ble_eq_true rfl) ?_
    refine zg_if_eq (tgt := 27) dd_171_10 (by decide) (fun q5 => ?_) (fun q5 => ?_)
    · replace h := z_t h q5
      obtain rfl := Option.some.inj h
      exact zg_vret dd_171_27 rfl
    · replace h := z_f h q5
      refine zg_aload_n dd_171_13 rfl (j := 0) rfl ?_
      obtain ⟨r6, e7, h⟩ := z_bd h
      refine zg_invV_v (av := []) (st := []) (n := 0) dd_171_14 ca_172 zw_1265 zw_1267 zv_49 zMs_0 zcl_12 rfl (mt_fm_both hrc e7) rfl ⟨by omega, by decide⟩ (Nat.le_of_ble_eq_true rfl) ?_
      refine zg_aload_n dd_171_17 rfl (j := 0) rfl ?_
      refine zg_sipush dd_171_18 kS_20000 ?_
      obtain ⟨r8, e9, h⟩ := z_bd h
      refine zg_invV_v (av := [.inl (20000 : Int32)]) (st := []) (n := 1) dd_171_21 ca_179 zw_1289 zw_1291 zv_55 zMs_0 zcl_12 rfl (mt_fm_codes e9) rfl ⟨by omega, by decide⟩ (Nat.le_of_ble_eq_true rfl) ?_
      refine zg_goto (tgt := 4) dd_171_24 (by decide) ?_
      refine zg_sub [0] rfl ?_
      exact ih  _ h
set_option maxRecDepth 20000 in
theorem mt_fm_either {rc : zI → Option zI} {dd : Nat} (hrc : ∀ (I : zI) (res : zI), rc I = some res → zM dd ym_176 [.inr (.inr (some 0))] (zMs, zMr, I) none (zMs, zMr, res) 0 0) {I : zI} {res : zI} (h : fm_either rc I = some res) : zM (dd + 7) ym_171 [.inr (.inr (some 0))] (zMs, zMr, I) none (zMs, zMr, res) 0 0 := by
  refine zM_of (by decide) (Nat.le_of_ble_eq_true rfl) (lv := [(0, .inr (.inr (some 0)))]) rfl ?_
  rw [fm_either] at h
  refine zg_aload_n dd_171_0 rfl (j := 0) rfl ?_
  obtain ⟨r1, e2, h⟩ := z_bd h
  refine zg_invV_v (av := []) (st := []) (n := 0) dd_171_1 ca_172 zw_1265 zw_1267 zv_49 zMs_0 zcl_12 rfl (mt_fm_both hrc e2) rfl ⟨by omega, by decide⟩ (Nat.le_of_ble_eq_true rfl) ?_
  refine zg_sub [0] rfl ?_
  refine lt_fm_either_L4 hrc  _  _ h
/-! java/lang/String.coder[100010] -/
def fm_JString_coder (I : zI) : Option Int32 :=
  z_guard (zna .byte (0 : Int32)) <|
  some (0 : Int32)
set_option maxRecDepth 20000 in
theorem mt_fm_JString_coder {I : zI} {res : Int32} (h : fm_JString_coder I = some res) : zM 1 ym_182 [.inr (.inr (some 100010))] (zMs, zMr, I) (some (.inl res)) (zMs, zMr, I) 0 0 := by
  refine zM_of (by decide) (Nat.le_of_ble_eq_true rfl) (lv := [(0, .inr (.inr (some 100010)))]) rfl ?_
  rw [fm_JString_coder] at h
  refine zg_gst dd_182_0 (List.mem_of_getElem? (i := 4) rfl) zw_1309 ?_
  refine zg_if_eq (tgt := 13) dd_182_3 (by decide) (fun q1 => absurd q1 (by decide)) (fun _ => ?_)
  refine zg_aload_n dd_182_6 rfl (j := 0) rfl ?_
  refine zg_getX dd_182_7 (List.mem_of_getElem? (i := 1) rfl) zw_1617 ?_
  refine zg_goto (tgt := 14) dd_182_10 (by decide) ?_
  obtain ⟨g2, h⟩ := z_gd h
  obtain rfl := Option.some.inj h
  exact zg_zret dd_182_14 rfl (zna_of g2)
/-! java/lang/String.length[100010] -/
def fm_JString_length (I : zI) : Option Int32 :=
  (fm_JString_coder I).bind fun r1 =>
  some ((4 : Int32) >>> (r1 &&& 31))
set_option maxRecDepth 20000 in
theorem mt_fm_JString_length {I : zI} {res : Int32} (h : fm_JString_length I = some res) : zM 2 ym_181 [.inr (.inr (some 100010))] (zMs, zMr, I) (some (.inl res)) (zMs, zMr, I) 0 0 := by
  refine zM_of (by decide) (Nat.le_of_ble_eq_true rfl) (lv := [(0, .inr (.inr (some 100010)))]) rfl ?_
  rw [fm_JString_length] at h
  refine zg_aload_n dd_181_0 rfl (j := 0) rfl ?_
  refine zg_getX dd_181_1 (List.mem_of_getElem? (i := 0) rfl) zw_1616 ?_
  refine zg_tlen dd_181_4 (List.mem_of_getElem? (i := 4) rfl) (v := 4) (by decide) ?_
  refine zg_aload_n dd_181_5 rfl (j := 0) rfl ?_
  obtain ⟨r1, e2, h⟩ := z_bd h
  refine zg_invX_i (av := []) (st := [.inl (4 : Int32)]) (n := 0) dd_181_6 ca_182 zw_1305 zw_1306 zw_1307 (List.mem_of_getElem? (i := 0) rfl) (mt_fm_JString_coder e2) rfl ⟨by decide +kernel, by decide⟩ (Nat.le_of_ble_eq_true rfl) ?_
  refine zg_ishr dd_181_9 ?_
  obtain rfl := Option.some.inj h
  exact zg_iret dd_181_10 rfl
/-! java/lang/String.isLatin1[100010] -/
def fm_JString_isLatin1 (I : zI) : Option Int32 :=
  some (1 : Int32)
set_option maxRecDepth 20000 in
theorem mt_fm_JString_isLatin1 {I : zI} {res : Int32} (h : fm_JString_isLatin1 I = some res) : zM 1 ym_184 [.inr (.inr (some 100010))] (zMs, zMr, I) (some (.inl res)) (zMs, zMr, I) 0 0 := by
  refine zM_of (by decide) (Nat.le_of_ble_eq_true rfl) (lv := [(0, .inr (.inr (some 100010)))]) rfl ?_
  rw [fm_JString_isLatin1] at h
  refine zg_gst dd_184_0 (List.mem_of_getElem? (i := 4) rfl) zw_1309 ?_
  refine zg_if_eq (tgt := 17) dd_184_3 (by decide) (fun q1 => absurd q1 (by decide)) (fun _ => ?_)
  refine zg_aload_n dd_184_6 rfl (j := 0) rfl ?_
  refine zg_getX dd_184_7 (List.mem_of_getElem? (i := 1) rfl) zw_1617 ?_
  refine zg_if_ne (tgt := 17) dd_184_10 (by decide) (fun q2 => absurd q2 (by decide)) (fun _ => ?_)
  refine zg_iconst dd_184_13 kI_1 ?_
  refine zg_goto (tgt := 18) dd_184_14 (by decide) ?_
  obtain rfl := Option.some.inj h
  exact zg_zret dd_184_18 rfl zSt_b1.1
/-! jdk/internal/util/Preconditions.checkIndex[None, None, 'fx'] -/
def fm_JPreconditions_checkIndex (I : zI) (a0 : Int32) (a1 : Int32) : Option Int32 :=
  if a0 < 0 then
    none
  else
    if a0 < a1 then
      some a0
    else
      none
set_option maxRecDepth 20000 in
theorem mt_fm_JPreconditions_checkIndex {I : zI} {a0 : Int32} {a1 : Int32} {res : Int32} (fx : Option Nat) (h : fm_JPreconditions_checkIndex I a0 a1 = some res) : zM 1 ym_187 [.inl a0, .inl a1, .inr (.inr fx)] (zMs, zMr, I) (some (.inl res)) (zMs, zMr, I) 0 0 := by
  refine zM_of (by decide) (Nat.le_of_ble_eq_true rfl) (lv := [(0, .inl a0), (1, .inl a1), (2, .inr (.inr fx))]) rfl ?_
  rw [fm_JPreconditions_checkIndex] at h
  refine zg_iload_n dd_187_0 rfl (j := 0) rfl ?_
  refine zg_if_lt (tgt := 9) dd_187_1 (by decide) (fun q1 => ?_) (fun q1 => ?_)
  · replace h := z_t h q1
    cases h
  · replace h := z_f h q1
    refine zg_iload_n dd_187_4 rfl (j := 0) rfl ?_
    refine zg_iload_n dd_187_5 rfl (j := 1) rfl ?_
    refine zg_icmp_lt (tgt := 16) dd_187_6 (by decide) (fun q2 => ?_) (fun q2 => ?_)
    · replace h := z_t h q2
      refine zg_iload_n dd_187_16 rfl (j := 0) rfl ?_
      obtain rfl := Option.some.inj h
      exact zg_iret dd_187_17 rfl
    · replace h := z_f h q2
      cases h
/-! java/lang/String.checkIndex[None, None] -/
def fm_JString_checkIndex (I : zI) (a0 : Int32) (a1 : Int32) : Option Unit :=
  (fm_JPreconditions_checkIndex I a0 a1).bind fun r1 =>
  some ()
set_option maxRecDepth 20000 in
theorem mt_fm_JString_checkIndex {I : zI} {a0 : Int32} {a1 : Int32} {res : Unit} (h : fm_JString_checkIndex I a0 a1 = some res) : zM 2 ym_186 [.inl a0, .inl a1] (zMs, zMr, I) none (zMs, zMr, I) 0 0 := by
  refine zM_of (by decide) (Nat.le_of_ble_eq_true rfl) (lv := [(0, .inl a0), (1, .inl a1)]) rfl ?_
  rw [fm_JString_checkIndex] at h
  refine zg_iload_n dd_186_0 rfl (j := 0) rfl ?_
  refine zg_iload_n dd_186_1 rfl (j := 1) rfl ?_
  refine zg_gstQ dd_186_2 zw_1325 (fun fx => ?_)
  obtain ⟨r1, e2, h⟩ := z_bd h
  refine zg_invS_i (av := [.inl a0, .inl a1, .inr (.inr fx)]) (st := []) (n := 3) dd_186_5 ca_187 zw_1327 zw_1328 (mt_fm_JPreconditions_checkIndex fx e2) rfl ⟨by decide +kernel, by decide⟩ (Nat.le_of_ble_eq_true rfl) ?_
  refine zg_pop dd_186_8 rfl ?_
  obtain rfl := Option.some.inj h
  exact zg_vret dd_186_9 rfl
/-! java/lang/StringLatin1.charAt[100020, None] -/
def fm_JStringLatin1_charAt (I : zI) (a1 : Int32) : Option Int32 :=
  (fm_JString_checkIndex I a1 (4 : Int32)).bind fun r1 =>
  z_guard (zb a1 4) <|
  z_guard (zna .char (((Int32.toUInt32 ((zLst [99, 100, 104, 106] a1.toNatClampNeg) &&& (255 : Int32))) % 65536).toInt32)) <|
  some (((Int32.toUInt32 ((zLst [99, 100, 104, 106] a1.toNatClampNeg) &&& (255 : Int32))) % 65536).toInt32)
set_option maxRecDepth 20000 in
theorem mt_fm_JStringLatin1_charAt {I : zI} {a1 : Int32} {res : Int32} (h : fm_JStringLatin1_charAt I a1 = some res) : zM 3 ym_185 [.inr (.inr (some 100020)), .inl a1] (zMs, zMr, I) (some (.inl res)) (zMs, zMr, I) 0 0 := by
  refine zM_of (by decide) (Nat.le_of_ble_eq_true rfl) (lv := [(0, .inr (.inr (some 100020))), (1, .inl a1)]) rfl ?_
  rw [fm_JStringLatin1_charAt] at h
  refine zg_iload_n dd_185_0 rfl (j := 1) rfl ?_
  refine zg_aload_n dd_185_1 rfl (j := 0) rfl ?_
  refine zg_tlen dd_185_2 (List.mem_of_getElem? (i := 4) rfl) (v := 4) (by decide) ?_
  obtain ⟨r1, e2, h⟩ := z_bd h
  refine zg_invS_v (av := [.inl a1, .inl (4 : Int32)]) (st := []) (n := 2) dd_185_3 ca_186 zw_1322 zw_1323 (mt_fm_JString_checkIndex e2) rfl ⟨by decide +kernel, by decide⟩ (Nat.le_of_ble_eq_true rfl) ?_
  refine zg_aload_n dd_185_6 rfl (j := 0) rfl ?_
  refine zg_iload_n dd_185_7 rfl (j := 1) rfl ?_
  obtain ⟨g3, h⟩ := z_gd h
  refine zg_tbald dd_185_8 (List.mem_of_getElem? (i := 4) rfl) g3 ?_
  refine zg_sipush dd_185_9 kS_255 ?_
  refine zg_iand dd_185_12 ?_
  refine zg_i2c dd_185_13 ?_
  obtain ⟨g4, h⟩ := z_gd h
  obtain rfl := Option.some.inj h
  exact zg_zret dd_185_14 rfl (zna_of g4)
/-! java/lang/String.charAt[100010, None] -/
def fm_JString_charAt (I : zI) (a1 : Int32) : Option Int32 :=
  (fm_JString_isLatin1 I).bind fun r1 =>
  if r1 = 0 then
    none
  else
    (fm_JStringLatin1_charAt I a1).bind fun r4 =>
    z_guard (zna .char r4) <|
    some r4
set_option maxRecDepth 20000 in
theorem mt_fm_JString_charAt {I : zI} {a1 : Int32} {res : Int32} (h : fm_JString_charAt I a1 = some res) : zM 4 ym_183 [.inr (.inr (some 100010)), .inl a1] (zMs, zMr, I) (some (.inl res)) (zMs, zMr, I) 0 0 := by
  refine zM_of (by decide) (Nat.le_of_ble_eq_true rfl) (lv := [(0, .inr (.inr (some 100010))), (1, .inl a1)]) rfl ?_
  rw [fm_JString_charAt] at h
  refine zg_aload_n dd_183_0 rfl (j := 0) rfl ?_
  obtain ⟨r1, e2, h⟩ := z_bd h
  refine zg_invX_i (av := []) (st := []) (n := 0) dd_183_1 ca_184 zw_1315 zw_1316 zw_1317 (List.mem_of_getElem? (i := 0) rfl) (mt_fm_JString_isLatin1 e2) rfl ⟨by decide +kernel, by decide⟩ (Nat.le_of_ble_eq_true rfl) ?_
  refine zg_if_eq (tgt := 16) dd_183_4 (by decide) (fun q3 => ?_) (fun q3 => ?_)
  · replace h := z_t h q3
    refine zg_aload_n dd_183_16 rfl (j := 0) rfl ?_
    refine zg_getX dd_183_17 (List.mem_of_getElem? (i := 0) rfl) zw_1616 ?_
    refine zg_iload_n dd_183_20 rfl (j := 1) rfl ?_
    cases h
  · replace h := z_f h q3
    refine zg_aload_n dd_183_7 rfl (j := 0) rfl ?_
    refine zg_getX dd_183_8 (List.mem_of_getElem? (i := 0) rfl) zw_1616 ?_
    refine zg_iload_n dd_183_11 rfl (j := 1) rfl ?_
    obtain ⟨r4, e5, h⟩ := z_bd h
    refine zg_invS_i (av := [.inr (.inr (some 100020)), .inl a1]) (st := []) (n := 2) dd_183_12 ca_185 zw_1319 zw_1320 (mt_fm_JStringLatin1_charAt e5) rfl ⟨by decide +kernel, by decide⟩ (Nat.le_of_ble_eq_true rfl) ?_
    obtain ⟨g6, h⟩ := z_gd h
    obtain rfl := Option.some.inj h
    exact zg_zret dd_183_15 rfl (zna_of g6)
/-! java/lang/String.isLatin1[100011] -/
def fm_JString_isLatin1_2 (I : zI) : Option Int32 :=
  some (1 : Int32)
set_option maxRecDepth 20000 in
theorem mt_fm_JString_isLatin1_2 {I : zI} {res : Int32} (h : fm_JString_isLatin1_2 I = some res) : zM 1 ym_184 [.inr (.inr (some 100011))] (zMs, zMr, I) (some (.inl res)) (zMs, zMr, I) 0 0 := by
  refine zM_of (by decide) (Nat.le_of_ble_eq_true rfl) (lv := [(0, .inr (.inr (some 100011)))]) rfl ?_
  rw [fm_JString_isLatin1_2] at h
  refine zg_gst dd_184_0 (List.mem_of_getElem? (i := 4) rfl) zw_1309 ?_
  refine zg_if_eq (tgt := 17) dd_184_3 (by decide) (fun q1 => absurd q1 (by decide)) (fun _ => ?_)
  refine zg_aload_n dd_184_6 rfl (j := 0) rfl ?_
  refine zg_getX dd_184_7 (List.mem_of_getElem? (i := 3) rfl) zw_1617 ?_
  refine zg_if_ne (tgt := 17) dd_184_10 (by decide) (fun q2 => absurd q2 (by decide)) (fun _ => ?_)
  refine zg_iconst dd_184_13 kI_1 ?_
  refine zg_goto (tgt := 18) dd_184_14 (by decide) ?_
  obtain rfl := Option.some.inj h
  exact zg_zret dd_184_18 rfl zSt_b1.1
/-! java/lang/StringLatin1.charAt[100021, None] -/
def fm_JStringLatin1_charAt_2 (I : zI) (a1 : Int32) : Option Int32 :=
  (fm_JString_checkIndex I a1 (3 : Int32)).bind fun r1 =>
  z_guard (zb a1 3) <|
  z_guard (zna .char (((Int32.toUInt32 ((zLst [119, 97, 115] a1.toNatClampNeg) &&& (255 : Int32))) % 65536).toInt32)) <|
  some (((Int32.toUInt32 ((zLst [119, 97, 115] a1.toNatClampNeg) &&& (255 : Int32))) % 65536).toInt32)
set_option maxRecDepth 20000 in
theorem mt_fm_JStringLatin1_charAt_2 {I : zI} {a1 : Int32} {res : Int32} (h : fm_JStringLatin1_charAt_2 I a1 = some res) : zM 3 ym_185 [.inr (.inr (some 100021)), .inl a1] (zMs, zMr, I) (some (.inl res)) (zMs, zMr, I) 0 0 := by
  refine zM_of (by decide) (Nat.le_of_ble_eq_true rfl) (lv := [(0, .inr (.inr (some 100021))), (1, .inl a1)]) rfl ?_
  rw [fm_JStringLatin1_charAt_2] at h
  refine zg_iload_n dd_185_0 rfl (j := 1) rfl ?_
  refine zg_aload_n dd_185_1 rfl (j := 0) rfl ?_
  refine zg_tlen dd_185_2 (List.mem_of_getElem? (i := 5) rfl) (v := 3) (by decide) ?_
  obtain ⟨r1, e2, h⟩ := z_bd h
  refine zg_invS_v (av := [.inl a1, .inl (3 : Int32)]) (st := []) (n := 2) dd_185_3 ca_186 zw_1322 zw_1323 (mt_fm_JString_checkIndex e2) rfl ⟨by decide +kernel, by decide⟩ (Nat.le_of_ble_eq_true rfl) ?_
  refine zg_aload_n dd_185_6 rfl (j := 0) rfl ?_
  refine zg_iload_n dd_185_7 rfl (j := 1) rfl ?_
  obtain ⟨g3, h⟩ := z_gd h
  refine zg_tbald dd_185_8 (List.mem_of_getElem? (i := 5) rfl) g3 ?_
  refine zg_sipush dd_185_9 kS_255 ?_
  refine zg_iand dd_185_12 ?_
  refine zg_i2c dd_185_13 ?_
  obtain ⟨g4, h⟩ := z_gd h
  obtain rfl := Option.some.inj h
  exact zg_zret dd_185_14 rfl (zna_of g4)
/-! java/lang/String.charAt[100011, None] -/
def fm_JString_charAt_2 (I : zI) (a1 : Int32) : Option Int32 :=
  (fm_JString_isLatin1_2 I).bind fun r1 =>
  if r1 = 0 then
    none
  else
    (fm_JStringLatin1_charAt_2 I a1).bind fun r4 =>
    z_guard (zna .char r4) <|
    some r4
set_option maxRecDepth 20000 in
theorem mt_fm_JString_charAt_2 {I : zI} {a1 : Int32} {res : Int32} (h : fm_JString_charAt_2 I a1 = some res) : zM 4 ym_183 [.inr (.inr (some 100011)), .inl a1] (zMs, zMr, I) (some (.inl res)) (zMs, zMr, I) 0 0 := by
  refine zM_of (by decide) (Nat.le_of_ble_eq_true rfl) (lv := [(0, .inr (.inr (some 100011))), (1, .inl a1)]) rfl ?_
  rw [fm_JString_charAt_2] at h
  refine zg_aload_n dd_183_0 rfl (j := 0) rfl ?_
  obtain ⟨r1, e2, h⟩ := z_bd h
  refine zg_invX_i (av := []) (st := []) (n := 0) dd_183_1 ca_184 zw_1315 zw_1316 zw_1317 (List.mem_of_getElem? (i := 1) rfl) (mt_fm_JString_isLatin1_2 e2) rfl ⟨by decide +kernel, by decide⟩ (Nat.le_of_ble_eq_true rfl) ?_
  refine zg_if_eq (tgt := 16) dd_183_4 (by decide) (fun q3 => ?_) (fun q3 => ?_)
  · replace h := z_t h q3
    refine zg_aload_n dd_183_16 rfl (j := 0) rfl ?_
    refine zg_getX dd_183_17 (List.mem_of_getElem? (i := 2) rfl) zw_1616 ?_
    refine zg_iload_n dd_183_20 rfl (j := 1) rfl ?_
    cases h
  · replace h := z_f h q3
    refine zg_aload_n dd_183_7 rfl (j := 0) rfl ?_
    refine zg_getX dd_183_8 (List.mem_of_getElem? (i := 2) rfl) zw_1616 ?_
    refine zg_iload_n dd_183_11 rfl (j := 1) rfl ?_
    obtain ⟨r4, e5, h⟩ := z_bd h
    refine zg_invS_i (av := [.inr (.inr (some 100021)), .inl a1]) (st := []) (n := 2) dd_183_12 ca_185 zw_1319 zw_1320 (mt_fm_JStringLatin1_charAt_2 e5) rfl ⟨by decide +kernel, by decide⟩ (Nat.le_of_ble_eq_true rfl) ?_
    obtain ⟨g6, h⟩ := z_gd h
    obtain rfl := Option.some.inj h
    exact zg_zret dd_183_15 rfl (zna_of g6)
/-! java/lang/String.coder[100011] -/
def fm_JString_coder_2 (I : zI) : Option Int32 :=
  z_guard (zna .byte (0 : Int32)) <|
  some (0 : Int32)
set_option maxRecDepth 20000 in
theorem mt_fm_JString_coder_2 {I : zI} {res : Int32} (h : fm_JString_coder_2 I = some res) : zM 1 ym_182 [.inr (.inr (some 100011))] (zMs, zMr, I) (some (.inl res)) (zMs, zMr, I) 0 0 := by
  refine zM_of (by decide) (Nat.le_of_ble_eq_true rfl) (lv := [(0, .inr (.inr (some 100011)))]) rfl ?_
  rw [fm_JString_coder_2] at h
  refine zg_gst dd_182_0 (List.mem_of_getElem? (i := 4) rfl) zw_1309 ?_
  refine zg_if_eq (tgt := 13) dd_182_3 (by decide) (fun q1 => absurd q1 (by decide)) (fun _ => ?_)
  refine zg_aload_n dd_182_6 rfl (j := 0) rfl ?_
  refine zg_getX dd_182_7 (List.mem_of_getElem? (i := 3) rfl) zw_1617 ?_
  refine zg_goto (tgt := 14) dd_182_10 (by decide) ?_
  obtain ⟨g2, h⟩ := z_gd h
  obtain rfl := Option.some.inj h
  exact zg_zret dd_182_14 rfl (zna_of g2)
/-! java/lang/String.length[100011] -/
def fm_JString_length_2 (I : zI) : Option Int32 :=
  (fm_JString_coder_2 I).bind fun r1 =>
  some ((3 : Int32) >>> (r1 &&& 31))
set_option maxRecDepth 20000 in
theorem mt_fm_JString_length_2 {I : zI} {res : Int32} (h : fm_JString_length_2 I = some res) : zM 2 ym_181 [.inr (.inr (some 100011))] (zMs, zMr, I) (some (.inl res)) (zMs, zMr, I) 0 0 := by
  refine zM_of (by decide) (Nat.le_of_ble_eq_true rfl) (lv := [(0, .inr (.inr (some 100011)))]) rfl ?_
  rw [fm_JString_length_2] at h
  refine zg_aload_n dd_181_0 rfl (j := 0) rfl ?_
  refine zg_getX dd_181_1 (List.mem_of_getElem? (i := 2) rfl) zw_1616 ?_
  refine zg_tlen dd_181_4 (List.mem_of_getElem? (i := 5) rfl) (v := 3) (by decide) ?_
  refine zg_aload_n dd_181_5 rfl (j := 0) rfl ?_
  obtain ⟨r1, e2, h⟩ := z_bd h
  refine zg_invX_i (av := []) (st := [.inl (3 : Int32)]) (n := 0) dd_181_6 ca_182 zw_1305 zw_1306 zw_1307 (List.mem_of_getElem? (i := 1) rfl) (mt_fm_JString_coder_2 e2) rfl ⟨by decide +kernel, by decide⟩ (Nat.le_of_ble_eq_true rfl) ?_
  refine zg_ishr dd_181_9 ?_
  obtain rfl := Option.some.inj h
  exact zg_iret dd_181_10 rfl
/-! TurnedLandModel.nameOf[0, None] -/
def fm_nameOf_L4 (I : zI) : Nat → Int32 → Int32 → Int32 → Option Int32
  | 0, _, _, _ => none
  | nf + 1, v1, v2, v3 =>
    if (I 0 8) = (0 : Int32) then
      (fm_JString_length I).bind fun r2 =>
      if r2 ≤ v3 then
        some v2
      else
        if (I 0 8) = (0 : Int32) then
          (fm_JString_charAt I v3).bind fun r6 =>
          if r6 = v1 then
            fm_nameOf_L4 I nf v1 v3 (v3 + (1 : Int32))
          else
            fm_nameOf_L4 I nf v1 v2 (v3 + (1 : Int32))
        else if (I 0 8) = (1 : Int32) then
          (fm_JString_charAt_2 I v3).bind fun r10 =>
          if r10 = v1 then
            fm_nameOf_L4 I nf v1 v3 (v3 + (1 : Int32))
          else
            fm_nameOf_L4 I nf v1 v2 (v3 + (1 : Int32))
        else none
    else if (I 0 8) = (1 : Int32) then
      (fm_JString_length_2 I).bind fun r14 =>
      if r14 ≤ v3 then
        some v2
      else
        if (I 0 8) = (0 : Int32) then
          (fm_JString_charAt I v3).bind fun r18 =>
          if r18 = v1 then
            fm_nameOf_L4 I nf v1 v3 (v3 + (1 : Int32))
          else
            fm_nameOf_L4 I nf v1 v2 (v3 + (1 : Int32))
        else if (I 0 8) = (1 : Int32) then
          (fm_JString_charAt_2 I v3).bind fun r22 =>
          if r22 = v1 then
            fm_nameOf_L4 I nf v1 v3 (v3 + (1 : Int32))
          else
            fm_nameOf_L4 I nf v1 v2 (v3 + (1 : Int32))
        else none
    else none
def fm_nameOf (I : zI) (a1 : Int32) : Option Int32 :=
  fm_nameOf_L4 I
    100 a1 (-1 : Int32) (0 : Int32)
set_option maxRecDepth 20000 in
theorem lt_fm_nameOf_L4 {res : Int32} {I : zI} : ∀ (nf : Nat) (v1 : Int32) (v2 : Int32) (v3 : Int32), fm_nameOf_L4 I nf v1 v2 v3 = some res → zG 5 ym_180 0 0 (some (.inl res)) (zMs, zMr, I) zMs.length 4 [(0, .inr (.inr (some 0))), (1, .inl v1), (2, .inl v2), (3, .inl v3)] [] (zMs, zMr, I) 0 0 := by
  intro nf
  induction nf with
  | zero =>
    intro v1 v2 v3 h
    have h2 : none = some res := h
    cases h2
  | succ nf ih =>
    intro v1 v2 v3 h
    rw [fm_nameOf_L4] at h
    refine zg_iload_n dd_180_4 rfl (j := 3) rfl ?_
    refine zg_aload_n dd_180_5 rfl (j := 0) rfl ?_
    refine zg_getR dd_180_6 zl_M_28 zMs_0 rfl zMr_0_5 ?_
    refine zg_aload_n dd_180_9 rfl (j := 0) rfl ?_
    refine zg_getI (x := (I 0 8)) dd_180_10 zl_M_181 zMs_0 rfl rfl ?_
    rcases z_if h with ⟨q1, h⟩ | ⟨q1, h⟩
    · refine zg_aald2 dd_180_13 zMs_5 (by (try dsimp only); rw [q1]; decide) (j := 100010) (by (try dsimp only); rw [q1]; decide +kernel) ?_
      obtain ⟨r2, e3, h⟩ := z_bd h
      refine zg_invX_i (av := []) (st := [.inl v3]) (n := 0) dd_180_14 ca_181 zw_1301 zw_1302 zw_1303 (List.mem_of_getElem? (i := 0) rfl) (mt_fm_JString_length e3) rfl ⟨by decide +kernel, by decide⟩ (Nat.le_of_ble_eq_true rfl) ?_
      refine zg_icmp_ge (tgt := 49) dd_180_17 (by decide) (fun q4 => ?_) (fun q4 => ?_)
      · replace h := z_t h q4
        refine zg_iload_n dd_180_49 rfl (j := 2) rfl ?_
        obtain rfl := Option.some.inj h
        exact zg_iret dd_180_50 rfl
      · replace h := z_f h q4
        refine zg_aload_n dd_180_20 rfl (j := 0) rfl ?_
        refine zg_getR dd_180_21 zl_M_28 zMs_0 rfl zMr_0_5 ?_
        refine zg_aload_n dd_180_24 rfl (j := 0) rfl ?_
        refine zg_getI (x := (I 0 8)) dd_180_25 zl_M_181 zMs_0 rfl rfl ?_
        rcases z_if h with ⟨q5, h⟩ | ⟨q5, h⟩
        · refine zg_aald2 dd_180_28 zMs_5 (by (try dsimp only); rw [q5]; decide) (j := 100010) (by (try dsimp only); rw [q5]; decide +kernel) ?_
          refine zg_iload_n dd_180_29 rfl (j := 3) rfl ?_
          obtain ⟨r6, e7, h⟩ := z_bd h
          refine zg_invX_i (av := [.inl v3]) (st := []) (n := 1) dd_180_30 ca_183 zw_1311 zw_1312 zw_1313 (List.mem_of_getElem? (i := 0) rfl) (mt_fm_JString_charAt e7) rfl ⟨by decide +kernel, by decide⟩ (Nat.le_of_ble_eq_true rfl) ?_
          refine zg_iload_n dd_180_33 rfl (j := 1) rfl ?_
          refine zg_icmp_ne (tgt := 41) dd_180_34 (by decide) (fun q8 => ?_) (fun q8 => ?_)
          · replace h := z_f h q8
            refine zg_iload_n dd_180_41 rfl (j := 2) rfl ?_
            refine zg_istore_n dd_180_42 rfl (Nat.le_of_ble_eq_true rfl) (lv' := [(2, .inl v2), (0, .inr (.inr (some 0))), (1, .inl v1), (3, .inl v3)]) rfl ?_
            refine zg_iinc dd_180_43 (j := 3) rfl (v := (v3 + (1 : Int32))) (by rw [kI_1]) (Nat.le_of_ble_eq_true rfl) (lv' := [(3, .inl (v3 + (1 : Int32))), (2, .inl v2), (0, .inr (.inr (some 0))), (1, .inl v1)]) rfl ?_
            refine zg_goto (tgt := 4) dd_180_46 (by decide) ?_
            refine zg_sub [2, 3, 1, 0] rfl ?_
            exact ih _ _ _ h
          · replace h := z_t h q8
            refine zg_iload_n dd_180_37 rfl (j := 3) rfl ?_
            refine zg_goto (tgt := 42) dd_180_38 (by decide) ?_
            refine zg_istore_n dd_180_42 rfl (Nat.le_of_ble_eq_true rfl) (lv' := [(2, .inl v3), (0, .inr (.inr (some 0))), (1, .inl v1), (3, .inl v3)]) rfl ?_
            refine zg_iinc dd_180_43 (j := 3) rfl (v := (v3 + (1 : Int32))) (by rw [kI_1]) (Nat.le_of_ble_eq_true rfl) (lv' := [(3, .inl (v3 + (1 : Int32))), (2, .inl v3), (0, .inr (.inr (some 0))), (1, .inl v1)]) rfl ?_
            refine zg_goto (tgt := 4) dd_180_46 (by decide) ?_
            refine zg_sub [2, 3, 1, 0] rfl ?_
            exact ih _ _ _ h
        rcases z_if h with ⟨q9, h⟩ | ⟨q9, h⟩
        · refine zg_aald2 dd_180_28 zMs_5 (by (try dsimp only); rw [q9]; decide) (j := 100011) (by (try dsimp only); rw [q9]; decide +kernel) ?_
          refine zg_iload_n dd_180_29 rfl (j := 3) rfl ?_
          obtain ⟨r10, e11, h⟩ := z_bd h
          refine zg_invX_i (av := [.inl v3]) (st := []) (n := 1) dd_180_30 ca_183 zw_1311 zw_1312 zw_1313 (List.mem_of_getElem? (i := 1) rfl) (mt_fm_JString_charAt_2 e11) rfl ⟨by decide +kernel, by decide⟩ (Nat.le_of_ble_eq_true rfl) ?_
          refine zg_iload_n dd_180_33 rfl (j := 1) rfl ?_
          refine zg_icmp_ne (tgt := 41) dd_180_34 (by decide) (fun q12 => ?_) (fun q12 => ?_)
          · replace h := z_f h q12
            refine zg_iload_n dd_180_41 rfl (j := 2) rfl ?_
            refine zg_istore_n dd_180_42 rfl (Nat.le_of_ble_eq_true rfl) (lv' := [(2, .inl v2), (0, .inr (.inr (some 0))), (1, .inl v1), (3, .inl v3)]) rfl ?_
            refine zg_iinc dd_180_43 (j := 3) rfl (v := (v3 + (1 : Int32))) (by rw [kI_1]) (Nat.le_of_ble_eq_true rfl) (lv' := [(3, .inl (v3 + (1 : Int32))), (2, .inl v2), (0, .inr (.inr (some 0))), (1, .inl v1)]) rfl ?_
            refine zg_goto (tgt := 4) dd_180_46 (by decide) ?_
            refine zg_sub [2, 3, 1, 0] rfl ?_
            exact ih _ _ _ h
          · replace h := z_t h q12
            refine zg_iload_n dd_180_37 rfl (j := 3) rfl ?_
            refine zg_goto (tgt := 42) dd_180_38 (by decide) ?_
            refine zg_istore_n dd_180_42 rfl (Nat.le_of_ble_eq_true rfl) (lv' := [(2, .inl v3), (0, .inr (.inr (some 0))), (1, .inl v1), (3, .inl v3)]) rfl ?_
            refine zg_iinc dd_180_43 (j := 3) rfl (v := (v3 + (1 : Int32))) (by rw [kI_1]) (Nat.le_of_ble_eq_true rfl) (lv' := [(3, .inl (v3 + (1 : Int32))), (2, .inl v3), (0, .inr (.inr (some 0))), (1, .inl v1)]) rfl ?_
            refine zg_goto (tgt := 4) dd_180_46 (by decide) ?_
            refine zg_sub [2, 3, 1, 0] rfl ?_
            exact ih _ _ _ h
        cases h
    rcases z_if h with ⟨q13, h⟩ | ⟨q13, h⟩
    · refine zg_aald2 dd_180_13 zMs_5 (by (try dsimp only); rw [q13]; decide) (j := 100011) (by (try dsimp only); rw [q13]; decide +kernel) ?_
      obtain ⟨r14, e15, h⟩ := z_bd h
      refine zg_invX_i (av := []) (st := [.inl v3]) (n := 0) dd_180_14 ca_181 zw_1301 zw_1302 zw_1303 (List.mem_of_getElem? (i := 1) rfl) (mt_fm_JString_length_2 e15) rfl ⟨by decide +kernel, by decide⟩ (Nat.le_of_ble_eq_true rfl) ?_
      refine zg_icmp_ge (tgt := 49) dd_180_17 (by decide) (fun q16 => ?_) (fun q16 => ?_)
      · replace h := z_t h q16
        refine zg_iload_n dd_180_49 rfl (j := 2) rfl ?_
        obtain rfl := Option.some.inj h
        exact zg_iret dd_180_50 rfl
      · replace h := z_f h q16
        refine zg_aload_n dd_180_20 rfl (j := 0) rfl ?_
        refine zg_getR dd_180_21 zl_M_28 zMs_0 rfl zMr_0_5 ?_
        refine zg_aload_n dd_180_24 rfl (j := 0) rfl ?_
        refine zg_getI (x := (I 0 8)) dd_180_25 zl_M_181 zMs_0 rfl rfl ?_
        rcases z_if h with ⟨q17, h⟩ | ⟨q17, h⟩
        · refine zg_aald2 dd_180_28 zMs_5 (by (try dsimp only); rw [q17]; decide) (j := 100010) (by (try dsimp only); rw [q17]; decide +kernel) ?_
          refine zg_iload_n dd_180_29 rfl (j := 3) rfl ?_
          obtain ⟨r18, e19, h⟩ := z_bd h
          refine zg_invX_i (av := [.inl v3]) (st := []) (n := 1) dd_180_30 ca_183 zw_1311 zw_1312 zw_1313 (List.mem_of_getElem? (i := 0) rfl) (mt_fm_JString_charAt e19) rfl ⟨by decide +kernel, by decide⟩ (Nat.le_of_ble_eq_true rfl) ?_
          refine zg_iload_n dd_180_33 rfl (j := 1) rfl ?_
          refine zg_icmp_ne (tgt := 41) dd_180_34 (by decide) (fun q20 => ?_) (fun q20 => ?_)
          · replace h := z_f h q20
            refine zg_iload_n dd_180_41 rfl (j := 2) rfl ?_
            refine zg_istore_n dd_180_42 rfl (Nat.le_of_ble_eq_true rfl) (lv' := [(2, .inl v2), (0, .inr (.inr (some 0))), (1, .inl v1), (3, .inl v3)]) rfl ?_
            refine zg_iinc dd_180_43 (j := 3) rfl (v := (v3 + (1 : Int32))) (by rw [kI_1]) (Nat.le_of_ble_eq_true rfl) (lv' := [(3, .inl (v3 + (1 : Int32))), (2, .inl v2), (0, .inr (.inr (some 0))), (1, .inl v1)]) rfl ?_
            refine zg_goto (tgt := 4) dd_180_46 (by decide) ?_
            refine zg_sub [2, 3, 1, 0] rfl ?_
            exact ih _ _ _ h
          · replace h := z_t h q20
            refine zg_iload_n dd_180_37 rfl (j := 3) rfl ?_
            refine zg_goto (tgt := 42) dd_180_38 (by decide) ?_
            refine zg_istore_n dd_180_42 rfl (Nat.le_of_ble_eq_true rfl) (lv' := [(2, .inl v3), (0, .inr (.inr (some 0))), (1, .inl v1), (3, .inl v3)]) rfl ?_
            refine zg_iinc dd_180_43 (j := 3) rfl (v := (v3 + (1 : Int32))) (by rw [kI_1]) (Nat.le_of_ble_eq_true rfl) (lv' := [(3, .inl (v3 + (1 : Int32))), (2, .inl v3), (0, .inr (.inr (some 0))), (1, .inl v1)]) rfl ?_
            refine zg_goto (tgt := 4) dd_180_46 (by decide) ?_
            refine zg_sub [2, 3, 1, 0] rfl ?_
            exact ih _ _ _ h
        rcases z_if h with ⟨q21, h⟩ | ⟨q21, h⟩
        · refine zg_aald2 dd_180_28 zMs_5 (by (try dsimp only); rw [q21]; decide) (j := 100011) (by (try dsimp only); rw [q21]; decide +kernel) ?_
          refine zg_iload_n dd_180_29 rfl (j := 3) rfl ?_
          obtain ⟨r22, e23, h⟩ := z_bd h
          refine zg_invX_i (av := [.inl v3]) (st := []) (n := 1) dd_180_30 ca_183 zw_1311 zw_1312 zw_1313 (List.mem_of_getElem? (i := 1) rfl) (mt_fm_JString_charAt_2 e23) rfl ⟨by decide +kernel, by decide⟩ (Nat.le_of_ble_eq_true rfl) ?_
          refine zg_iload_n dd_180_33 rfl (j := 1) rfl ?_
          refine zg_icmp_ne (tgt := 41) dd_180_34 (by decide) (fun q24 => ?_) (fun q24 => ?_)
          · replace h := z_f h q24
            refine zg_iload_n dd_180_41 rfl (j := 2) rfl ?_
            refine zg_istore_n dd_180_42 rfl (Nat.le_of_ble_eq_true rfl) (lv' := [(2, .inl v2), (0, .inr (.inr (some 0))), (1, .inl v1), (3, .inl v3)]) rfl ?_
            refine zg_iinc dd_180_43 (j := 3) rfl (v := (v3 + (1 : Int32))) (by rw [kI_1]) (Nat.le_of_ble_eq_true rfl) (lv' := [(3, .inl (v3 + (1 : Int32))), (2, .inl v2), (0, .inr (.inr (some 0))), (1, .inl v1)]) rfl ?_
            refine zg_goto (tgt := 4) dd_180_46 (by decide) ?_
            refine zg_sub [2, 3, 1, 0] rfl ?_
            exact ih _ _ _ h
          · replace h := z_t h q24
            refine zg_iload_n dd_180_37 rfl (j := 3) rfl ?_
            refine zg_goto (tgt := 42) dd_180_38 (by decide) ?_
            refine zg_istore_n dd_180_42 rfl (Nat.le_of_ble_eq_true rfl) (lv' := [(2, .inl v3), (0, .inr (.inr (some 0))), (1, .inl v1), (3, .inl v3)]) rfl ?_
            refine zg_iinc dd_180_43 (j := 3) rfl (v := (v3 + (1 : Int32))) (by rw [kI_1]) (Nat.le_of_ble_eq_true rfl) (lv' := [(3, .inl (v3 + (1 : Int32))), (2, .inl v3), (0, .inr (.inr (some 0))), (1, .inl v1)]) rfl ?_
            refine zg_goto (tgt := 4) dd_180_46 (by decide) ?_
            refine zg_sub [2, 3, 1, 0] rfl ?_
            exact ih _ _ _ h
        cases h
    cases h
set_option maxRecDepth 20000 in
theorem mt_fm_nameOf {I : zI} {a1 : Int32} {res : Int32} (h : fm_nameOf I a1 = some res) : zM 5 ym_180 [.inr (.inr (some 0)), .inl a1] (zMs, zMr, I) (some (.inl res)) (zMs, zMr, I) 0 0 := by
  refine zM_of (by decide) (Nat.le_of_ble_eq_true rfl) (lv := [(0, .inr (.inr (some 0))), (1, .inl a1)]) rfl ?_
  rw [fm_nameOf] at h
  refine zg_iconst dd_180_0 kI_m1 ?_
  refine zg_istore_n dd_180_1 rfl (Nat.le_of_ble_eq_true rfl) (lv' := [(2, .inl (-1 : Int32)), (0, .inr (.inr (some 0))), (1, .inl a1)]) rfl ?_
  refine zg_iconst dd_180_2 kI_0 ?_
  refine zg_istore_n dd_180_3 rfl (Nat.le_of_ble_eq_true rfl) (lv' := [(3, .inl (0 : Int32)), (2, .inl (-1 : Int32)), (0, .inr (.inr (some 0))), (1, .inl a1)]) rfl ?_
  refine zg_sub [2, 3, 1, 0] rfl ?_
  refine lt_fm_nameOf_L4  _ _ _ _ h
/-! TurnedLandModel.one(0,) -/
def fm_one_J31 (rc : zI → Option zI) (I : zI) (v1 : Int32) (x1 : Int32) : Option zI :=
  z_guard (zbb x1) <|
  if x1 = 0 then
    if v1 = (33 : Int32) then
      (rc (zup (zup (zup I 0 9 x1) 0 7 ((I 0 7) + (1 : Int32))) 0 6 ((I 0 6) + (1 : Int32)))).bind fun r13 =>
      (fm_codes r13 (20010 : Int32)).bind fun r15 =>
      some (zup r15 0 7 ((r15 0 7) - (1 : Int32)))
    else
      (fm_either rc (zup (zup (zup I 0 9 x1) 0 7 ((I 0 7) + (1 : Int32))) 0 6 ((I 0 6) + (1 : Int32)))).bind fun r8 =>
      (fm_takes r8 (41 : Int32)).bind fun r10 =>
      if r10.1 = 0 then
        some (zup (zup r10.2 0 9 (1 : Int32)) 0 7 ((r10.2 0 7) - (1 : Int32)))
      else
        some (zup (zup r10.2 0 9 (0 : Int32)) 0 7 ((r10.2 0 7) - (1 : Int32)))
  else
    some (zup I 0 9 x1)
def fm_one_J17 (rc : zI → Option zI) (I : zI) (v1 : Int32) : Option zI :=
  if (I 0 7) = (5 : Int32) then
    fm_one_J31 rc I v1 (1 : Int32)
  else
    fm_one_J31 rc I v1 (0 : Int32)
def fm_one_J200 (rc : zI → Option zI) (I : zI) (x0 : Int32) : Option zI :=
  if (I 0 9) = 0 then
    if 0 ≤ x0 then
      (fm_codes (zup I 0 9 (0 : Int32)) ((10000 : Int32) + x0)).bind fun r28 =>
      some (zup r28 0 6 ((r28 0 6) + (1 : Int32)))
    else
      some (zup I 0 9 (1 : Int32))
  else
    some (zup I 0 9 (1 : Int32))
def fm_one_L131 (rc : zI → Option zI) : Nat → Int32 → Int32 → zI → Option zI
  | 0, _, _, _ => none
  | nf + 1, v2, v3, I =>
    if (4 : Int32) ≤ v3 then
      (fm_codes I v2).bind fun r32 =>
      some r32
    else
      (fm_here I).bind fun r34 =>
      (fm_within I r34 (48 : Int32) (57 : Int32)).bind fun r36 =>
      if r36 = 0 then
        (fm_codes I v2).bind fun r39 =>
        some r39
      else
        (fm_here I).bind fun r41 =>
        fm_one_L131 rc nf ((((10 : Int32) * v2) + r41) - (48 : Int32)) (v3 + (1 : Int32)) (zup I 0 6 ((I 0 6) + (1 : Int32)))
def fm_oneB (rc : zI → Option zI) (I : zI) : Option zI :=
  (fm_here I).bind fun r1 =>
  if r1 = (33 : Int32) then
    fm_one_J17 rc I r1
  else
    if r1 = (40 : Int32) then
      fm_one_J17 rc I r1
    else
      (fm_within I r1 (48 : Int32) (57 : Int32)).bind fun r18 =>
      if r18 = 0 then
        if 0 ≤ r1 then
          (fm_nameOf I r1).bind fun r22 =>
          fm_one_J200 rc I r22
        else
          fm_one_J200 rc I (-1 : Int32)
      else
        fm_one_L131 rc
          100 (0 : Int32) (0 : Int32) I
def fm_one : Nat → zI → Option zI
  | 0 => fun _ => none
  | nf + 1 => fm_oneB (fm_one nf)
set_option maxRecDepth 20000 in
theorem jt_fm_one_J31 {rc : zI → Option zI} {dd : Nat} (hrc : ∀ (I : zI) (res : zI), rc I = some res → zM dd ym_176 [.inr (.inr (some 0))] (zMs, zMr, I) none (zMs, zMr, res) 0 0) {res : zI} {I : zI} {v1 : Int32} {x1 : Int32} (h : fm_one_J31 rc I v1 x1 = some res) : zG (dd + 8) ym_176 0 0 none (zMs, zMr, res) zMs.length 31 [(0, .inr (.inr (some 0))), (1, .inl v1)] [.inl x1, .inr (.inr (some 0))] (zMs, zMr, I) 0 0 := by
  rw [fm_one_J31] at h
  obtain ⟨g5, h⟩ := z_gd h
  refine zg_putI dd_176_31 zp_M_145 zMs_0 rfl (zSt_bb g5) ?_
  refine zg_aload_n dd_176_34 rfl (j := 0) rfl ?_
  refine zg_getI (x := x1) dd_176_35 zl_M_145 zMs_0 rfl rfl ?_
  refine zg_if_ne (tgt := 247) dd_176_38 (by decide) (fun q6 => ?_) (fun q6 => ?_)
  · replace h := z_f h q6
    obtain rfl := Option.some.inj h
    exact zg_vret dd_176_247 rfl
  · replace h := z_t h q6
    refine zg_aload_n dd_176_41 rfl (j := 0) rfl ?_
    refine zg_dup dd_176_42 rfl ?_
    refine zg_getI (x := (I 0 7)) dd_176_43 zl_M_191 zMs_0 rfl rfl ?_
    refine zg_iconst dd_176_46 kI_1 ?_
    refine zg_iadd dd_176_47 ?_
    refine zg_putI dd_176_48 zp_M_191 zMs_0 rfl (zSt_int _) ?_
    refine zg_aload_n dd_176_51 rfl (j := 0) rfl ?_
    refine zg_dup dd_176_52 rfl ?_
    refine zg_getI (x := (I 0 6)) dd_176_53 zl_M_149 zMs_0 rfl rfl ?_
    refine zg_iconst dd_176_56 kI_1 ?_
    refine zg_iadd dd_176_57 ?_
    refine zg_putI dd_176_58 zp_M_149 zMs_0 rfl (zSt_int _) ?_
    refine zg_iload_n dd_176_61 rfl (j := 1) rfl ?_
    refine zg_bipush dd_176_62 kB_33 ?_
    refine zg_icmp_ne (tgt := 81) dd_176_64 (by decide) (fun q7 => ?_) (fun q7 => ?_)
    · replace h := z_f h q7
      refine zg_aload_n dd_176_81 rfl (j := 0) rfl ?_
      obtain ⟨r8, e9, h⟩ := z_bd h
      refine zg_invV_v (av := []) (st := []) (n := 0) dd_176_82 ca_171 zw_1261 zw_1263 zv_48 zMs_0 zcl_12 rfl (mt_fm_either hrc e9) rfl ⟨by omega, by decide⟩ (Nat.le_of_ble_eq_true rfl) ?_
      refine zg_aload_n dd_176_85 rfl (j := 0) rfl ?_
      refine zg_aload_n dd_176_86 rfl (j := 0) rfl ?_
      refine zg_bipush dd_176_87 kB_41 ?_
      obtain ⟨r10, e11, h⟩ := z_bd h
      refine zg_invV_i (av := [.inl (41 : Int32)]) (st := [.inr (.inr (some 0))]) (n := 1) dd_176_89 ca_177 zw_1293 zw_1295 zv_56 zMs_0 zcl_12 rfl (mt_fm_takes e11) rfl ⟨by omega, by decide⟩ (Nat.le_of_ble_eq_true rfl) ?_
      refine zg_if_ne (tgt := 99) dd_176_92 (by decide) (fun q12 => ?_) (fun q12 => ?_)
      · replace h := z_f h q12
        refine zg_iconst dd_176_99 kI_0 ?_
        refine zg_putI dd_176_100 zp_M_145 zMs_0 rfl zSt_b0 ?_
        refine zg_aload_n dd_176_103 rfl (j := 0) rfl ?_
        refine zg_dup dd_176_104 rfl ?_
        refine zg_getI (x := (r10.2 0 7)) dd_176_105 zl_M_191 zMs_0 rfl rfl ?_
        refine zg_iconst dd_176_108 kI_1 ?_
        refine zg_isub dd_176_109 ?_
        refine zg_putI dd_176_110 zp_M_191 zMs_0 rfl (zSt_int _) ?_
        refine zg_goto (tgt := 247) dd_176_113 (by decide) ?_
        obtain rfl := Option.some.inj h
        exact zg_vret dd_176_247 rfl
      · replace h := z_t h q12
        refine zg_iconst dd_176_95 kI_1 ?_
        refine zg_goto (tgt := 100) dd_176_96 (by decide) ?_
        refine zg_putI dd_176_100 zp_M_145 zMs_0 rfl zSt_b1 ?_
        refine zg_aload_n dd_176_103 rfl (j := 0) rfl ?_
        refine zg_dup dd_176_104 rfl ?_
        refine zg_getI (x := (r10.2 0 7)) dd_176_105 zl_M_191 zMs_0 rfl rfl ?_
        refine zg_iconst dd_176_108 kI_1 ?_
        refine zg_isub dd_176_109 ?_
        refine zg_putI dd_176_110 zp_M_191 zMs_0 rfl (zSt_int _) ?_
        refine zg_goto (tgt := 247) dd_176_113 (by decide) ?_
        obtain rfl := Option.some.inj h
        exact zg_vret dd_176_247 rfl
    · replace h := z_t h q7
      refine zg_aload_n dd_176_67 rfl (j := 0) rfl ?_
      obtain ⟨r13, e14, h⟩ := z_bd h
      refine zg_invV_v (av := []) (st := []) (n := 0) dd_176_68 ca_176 zw_1281 zw_1283 zv_53 zMs_0 zcl_12 rfl (hrc _ _ e14) rfl ⟨by omega, by decide⟩ (Nat.le_of_ble_eq_true rfl) ?_
      refine zg_aload_n dd_176_71 rfl (j := 0) rfl ?_
      refine zg_sipush dd_176_72 kS_20010 ?_
      obtain ⟨r15, e16, h⟩ := z_bd h
      refine zg_invV_v (av := [.inl (20010 : Int32)]) (st := []) (n := 1) dd_176_75 ca_179 zw_1289 zw_1291 zv_55 zMs_0 zcl_12 rfl (mt_fm_codes e16) rfl ⟨by omega, by decide⟩ (Nat.le_of_ble_eq_true rfl) ?_
      refine zg_goto (tgt := 103) dd_176_78 (by decide) ?_
      refine zg_aload_n dd_176_103 rfl (j := 0) rfl ?_
      refine zg_dup dd_176_104 rfl ?_
      refine zg_getI (x := (r15 0 7)) dd_176_105 zl_M_191 zMs_0 rfl rfl ?_
      refine zg_iconst dd_176_108 kI_1 ?_
      refine zg_isub dd_176_109 ?_
      refine zg_putI dd_176_110 zp_M_191 zMs_0 rfl (zSt_int _) ?_
      refine zg_goto (tgt := 247) dd_176_113 (by decide) ?_
      obtain rfl := Option.some.inj h
      exact zg_vret dd_176_247 rfl
set_option maxRecDepth 20000 in
theorem jt_fm_one_J17 {rc : zI → Option zI} {dd : Nat} (hrc : ∀ (I : zI) (res : zI), rc I = some res → zM dd ym_176 [.inr (.inr (some 0))] (zMs, zMr, I) none (zMs, zMr, res) 0 0) {res : zI} {I : zI} {v1 : Int32} (h : fm_one_J17 rc I v1 = some res) : zG (dd + 8) ym_176 0 0 none (zMs, zMr, res) zMs.length 17 [(0, .inr (.inr (some 0))), (1, .inl v1)] [] (zMs, zMr, I) 0 0 := by
  rw [fm_one_J17] at h
  refine zg_aload_n dd_176_17 rfl (j := 0) rfl ?_
  refine zg_aload_n dd_176_18 rfl (j := 0) rfl ?_
  refine zg_getI (x := (I 0 7)) dd_176_19 zl_M_191 zMs_0 rfl rfl ?_
  refine zg_iconst dd_176_22 kI_5 ?_
  refine zg_icmp_ne (tgt := 30) dd_176_23 (by decide) (fun q4 => ?_) (fun q4 => ?_)
  · replace h := z_f h q4
    refine zg_iconst dd_176_30 kI_0 ?_
    refine zg_sub [0, 1] rfl ?_
    exact jt_fm_one_J31 hrc h
  · replace h := z_t h q4
    refine zg_iconst dd_176_26 kI_1 ?_
    refine zg_goto (tgt := 31) dd_176_27 (by decide) ?_
    refine zg_sub [0, 1] rfl ?_
    exact jt_fm_one_J31 hrc h
set_option maxRecDepth 20000 in
theorem jt_fm_one_J200 {rc : zI → Option zI} {dd : Nat} (hrc : ∀ (I : zI) (res : zI), rc I = some res → zM dd ym_176 [.inr (.inr (some 0))] (zMs, zMr, I) none (zMs, zMr, res) 0 0) {res : zI} {I : zI} {x0 : Int32} (h : fm_one_J200 rc I x0 = some res) : zG (dd + 8) ym_176 0 0 none (zMs, zMr, res) zMs.length 200 [(0, .inr (.inr (some 0)))] [.inl x0] (zMs, zMr, I) 0 0 := by
  rw [fm_one_J200] at h
  refine zg_istore_n dd_176_200 rfl (Nat.le_of_ble_eq_true rfl) (lv' := [(2, .inl x0), (0, .inr (.inr (some 0)))]) rfl ?_
  refine zg_aload_n dd_176_201 rfl (j := 1) rfl ?_
  refine zg_aload_n dd_176_202 rfl (j := 1) rfl ?_
  refine zg_getI (x := (I 0 9)) dd_176_203 zl_M_145 zMs_0 rfl rfl ?_
  refine zg_if_ne (tgt := 213) dd_176_206 (by decide) (fun q24 => ?_) (fun q24 => ?_)
  · replace h := z_f h q24
    refine zg_iconst dd_176_213 kI_1 ?_
    refine zg_goto (tgt := 218) dd_176_214 (by decide) ?_
    refine zg_putI dd_176_218 zp_M_145 zMs_0 rfl zSt_b1 ?_
    refine zg_aload_n dd_176_221 rfl (j := 1) rfl ?_
    refine zg_getI (x := (1 : Int32)) dd_176_222 zl_M_145 zMs_0 rfl rfl ?_
    refine zg_if_ne (tgt := 247) dd_176_225 (by decide) (fun _ => ?_) (fun q25 => absurd q25 (by decide))
    obtain rfl := Option.some.inj h
    exact zg_vret dd_176_247 rfl
  · replace h := z_t h q24
    refine zg_iload_n dd_176_209 rfl (j := 0) rfl ?_
    refine zg_if_ge (tgt := 217) dd_176_210 (by decide) (fun q26 => ?_) (fun q26 => ?_)
    · replace h := z_t h q26
      refine zg_iconst dd_176_217 kI_0 ?_
      refine zg_putI dd_176_218 zp_M_145 zMs_0 rfl zSt_b0 ?_
      refine zg_aload_n dd_176_221 rfl (j := 1) rfl ?_
      refine zg_getI (x := (0 : Int32)) dd_176_222 zl_M_145 zMs_0 rfl rfl ?_
      refine zg_if_ne (tgt := 247) dd_176_225 (by decide) (fun q27 => absurd q27 (by decide)) (fun _ => ?_)
      refine zg_aload_n dd_176_228 rfl (j := 1) rfl ?_
      refine zg_sipush dd_176_229 kS_10000 ?_
      refine zg_iload_n dd_176_232 rfl (j := 0) rfl ?_
      refine zg_iadd dd_176_233 ?_
      obtain ⟨r28, e29, h⟩ := z_bd h
      refine zg_invV_v (av := [.inl ((10000 : Int32) + x0)]) (st := []) (n := 1) dd_176_234 ca_179 zw_1289 zw_1291 zv_55 zMs_0 zcl_12 rfl (mt_fm_codes e29) rfl ⟨by omega, by decide⟩ (Nat.le_of_ble_eq_true rfl) ?_
      refine zg_aload_n dd_176_237 rfl (j := 1) rfl ?_
      refine zg_dup dd_176_238 rfl ?_
      refine zg_getI (x := (r28 0 6)) dd_176_239 zl_M_149 zMs_0 rfl rfl ?_
      refine zg_iconst dd_176_242 kI_1 ?_
      refine zg_iadd dd_176_243 ?_
      refine zg_putI dd_176_244 zp_M_149 zMs_0 rfl (zSt_int _) ?_
      obtain rfl := Option.some.inj h
      exact zg_vret dd_176_247 rfl
    · replace h := z_f h q26
      refine zg_iconst dd_176_213 kI_1 ?_
      refine zg_goto (tgt := 218) dd_176_214 (by decide) ?_
      refine zg_putI dd_176_218 zp_M_145 zMs_0 rfl zSt_b1 ?_
      refine zg_aload_n dd_176_221 rfl (j := 1) rfl ?_
      refine zg_getI (x := (1 : Int32)) dd_176_222 zl_M_145 zMs_0 rfl rfl ?_
      refine zg_if_ne (tgt := 247) dd_176_225 (by decide) (fun _ => ?_) (fun q30 => absurd q30 (by decide))
      obtain rfl := Option.some.inj h
      exact zg_vret dd_176_247 rfl
set_option maxRecDepth 20000 in
theorem lt_fm_one_L131 {rc : zI → Option zI} {dd : Nat} (hrc : ∀ (I : zI) (res : zI), rc I = some res → zM dd ym_176 [.inr (.inr (some 0))] (zMs, zMr, I) none (zMs, zMr, res) 0 0) {res : zI} : ∀ (nf : Nat) (v2 : Int32) (v3 : Int32) (I : zI), fm_one_L131 rc nf v2 v3 I = some res → zG (dd + 8) ym_176 0 0 none (zMs, zMr, res) zMs.length 131 [(0, .inr (.inr (some 0))), (2, .inl v2), (3, .inl v3)] [] (zMs, zMr, I) 0 0 := by
  intro nf
  induction nf with
  | zero =>
    intro v2 v3 I h
    have h2 : none = some res := h
    cases h2
  | succ nf ih =>
    intro v2 v3 I h
    rw [fm_one_L131] at h
    refine zg_iload_n dd_176_131 rfl (j := 2) rfl ?_
    refine zg_iconst dd_176_132 kI_4 ?_
    refine zg_icmp_ge (tgt := 179) dd_176_133 (by decide) (fun q31 => ?_) (fun q31 => ?_)
    · replace h := z_t h q31
      refine zg_aload_n dd_176_179 rfl (j := 0) rfl ?_
      refine zg_iload_n dd_176_180 rfl (j := 1) rfl ?_
      obtain ⟨r32, e33, h⟩ := z_bd h
      refine zg_invV_v (av := [.inl v2]) (st := []) (n := 1) dd_176_181 ca_179 zw_1289 zw_1291 zv_55 zMs_0 zcl_12 rfl (mt_fm_codes e33) rfl ⟨by omega, by decide⟩ (Nat.le_of_ble_eq_true rfl) ?_
      refine zg_goto (tgt := 247) dd_176_184 (by decide) ?_
      obtain rfl := Option.some.inj h
      exact zg_vret dd_176_247 rfl
    · replace h := z_f h q31
      refine zg_aload_n dd_176_136 rfl (j := 0) rfl ?_
      obtain ⟨r34, e35, h⟩ := z_bd h
      refine zg_invV_i (av := []) (st := []) (n := 0) dd_176_137 ca_178 zw_1285 zw_1287 zv_54 zMs_0 zcl_12 rfl (mt_fm_here e35) rfl ⟨by omega, by decide⟩ (Nat.le_of_ble_eq_true rfl) ?_
      refine zg_bipush dd_176_140 kB_48 ?_
      refine zg_bipush dd_176_142 kB_57 ?_
      obtain ⟨r36, e37, h⟩ := z_bd h
      refine zg_invS_i (av := [.inl r34, .inl (48 : Int32), .inl (57 : Int32)]) (st := []) (n := 3) dd_176_144 ca_141 zw_1136 zw_1137 (mt_fm_within e37) rfl ⟨by omega, by decide⟩ (Nat.le_of_ble_eq_true rfl) ?_
      refine zg_if_eq (tgt := 179) dd_176_147 (by decide) (fun q38 => ?_) (fun q38 => ?_)
      · replace h := z_t h q38
        refine zg_aload_n dd_176_179 rfl (j := 0) rfl ?_
        refine zg_iload_n dd_176_180 rfl (j := 1) rfl ?_
        obtain ⟨r39, e40, h⟩ := z_bd h
        refine zg_invV_v (av := [.inl v2]) (st := []) (n := 1) dd_176_181 ca_179 zw_1289 zw_1291 zv_55 zMs_0 zcl_12 rfl (mt_fm_codes e40) rfl ⟨by omega, by decide⟩ (Nat.le_of_ble_eq_true rfl) ?_
        refine zg_goto (tgt := 247) dd_176_184 (by decide) ?_
        obtain rfl := Option.some.inj h
        exact zg_vret dd_176_247 rfl
      · replace h := z_f h q38
        refine zg_bipush dd_176_150 kB_10 ?_
        refine zg_iload_n dd_176_152 rfl (j := 1) rfl ?_
        refine zg_imul dd_176_153 ?_
        refine zg_aload_n dd_176_154 rfl (j := 0) rfl ?_
        obtain ⟨r41, e42, h⟩ := z_bd h
        refine zg_invV_i (av := []) (st := [.inl ((10 : Int32) * v2)]) (n := 0) dd_176_155 ca_178 zw_1285 zw_1287 zv_54 zMs_0 zcl_12 rfl (mt_fm_here e42) rfl ⟨by omega, by decide⟩ (Nat.le_of_ble_eq_true rfl) ?_
        refine zg_iadd dd_176_158 ?_
        refine zg_bipush dd_176_159 kB_48 ?_
        refine zg_isub dd_176_161 ?_
        refine zg_istore_n dd_176_162 rfl (Nat.le_of_ble_eq_true rfl) (lv' := [(2, .inl ((((10 : Int32) * v2) + r41) - (48 : Int32))), (0, .inr (.inr (some 0))), (3, .inl v3)]) rfl ?_
        refine zg_aload_n dd_176_163 rfl (j := 1) rfl ?_
        refine zg_dup dd_176_164 rfl ?_
        refine zg_getI (x := (I 0 6)) dd_176_165 zl_M_149 zMs_0 rfl rfl ?_
        refine zg_iconst dd_176_168 kI_1 ?_
        refine zg_iadd dd_176_169 ?_
        refine zg_putI dd_176_170 zp_M_149 zMs_0 rfl (zSt_int _) ?_
        refine zg_iinc dd_176_173 (j := 2) rfl (v := (v3 + (1 : Int32))) (by rw [kI_1]) (Nat.le_of_ble_eq_true rfl) (lv' := [(3, .inl (v3 + (1 : Int32))), (2, .inl ((((10 : Int32) * v2) + r41) - (48 : Int32))), (0, .inr (.inr (some 0)))]) rfl ?_
        refine zg_goto (tgt := 131) dd_176_176 (by decide) ?_
        refine zg_sub [2, 1, 0] rfl ?_
        exact ih _ _ _ h
set_option maxRecDepth 20000 in
theorem mt_fm_oneB {rc : zI → Option zI} {dd : Nat} (hrc : ∀ (I : zI) (res : zI), rc I = some res → zM dd ym_176 [.inr (.inr (some 0))] (zMs, zMr, I) none (zMs, zMr, res) 0 0) {I : zI} {res : zI} (h : fm_oneB rc I = some res) : zM (dd + 8) ym_176 [.inr (.inr (some 0))] (zMs, zMr, I) none (zMs, zMr, res) 0 0 := by
  refine zM_of (by decide) (Nat.le_of_ble_eq_true rfl) (lv := [(0, .inr (.inr (some 0)))]) rfl ?_
  rw [fm_oneB] at h
  refine zg_aload_n dd_176_0 rfl (j := 0) rfl ?_
  obtain ⟨r1, e2, h⟩ := z_bd h
  refine zg_invV_i (av := []) (st := []) (n := 0) dd_176_1 ca_178 zw_1285 zw_1287 zv_54 zMs_0 zcl_12 rfl (mt_fm_here e2) rfl ⟨by omega, by decide⟩ (Nat.le_of_ble_eq_true rfl) ?_
  refine zg_istore_n dd_176_4 rfl (Nat.le_of_ble_eq_true rfl) (lv' := [(1, .inl r1), (0, .inr (.inr (some 0)))]) rfl ?_
  refine zg_iload_n dd_176_5 rfl (j := 0) rfl ?_
  refine zg_bipush dd_176_6 kB_33 ?_
  refine zg_icmp_eq (tgt := 17) dd_176_8 (by decide) (fun q3 => ?_) (fun q3 => ?_)
  · replace h := z_t h q3
    refine zg_sub [1, 0] rfl ?_
    exact jt_fm_one_J17 hrc h
  · replace h := z_f h q3
    refine zg_iload_n dd_176_11 rfl (j := 0) rfl ?_
    refine zg_bipush dd_176_12 kB_40 ?_
    refine zg_icmp_ne (tgt := 116) dd_176_14 (by decide) (fun q17 => ?_) (fun q17 => ?_)
    · replace h := z_f h q17
      refine zg_iload_n dd_176_116 rfl (j := 0) rfl ?_
      refine zg_bipush dd_176_117 kB_48 ?_
      refine zg_bipush dd_176_119 kB_57 ?_
      obtain ⟨r18, e19, h⟩ := z_bd h
      refine zg_invS_i (av := [.inl r1, .inl (48 : Int32), .inl (57 : Int32)]) (st := []) (n := 3) dd_176_121 ca_141 zw_1136 zw_1137 (mt_fm_within e19) rfl ⟨by omega, by decide⟩ (Nat.le_of_ble_eq_true rfl) ?_
      refine zg_if_eq (tgt := 187) dd_176_124 (by decide) (fun q20 => ?_) (fun q20 => ?_)
      · replace h := z_t h q20
        refine zg_iload_n dd_176_187 rfl (j := 0) rfl ?_
        refine zg_if_ge (tgt := 195) dd_176_188 (by decide) (fun q21 => ?_) (fun q21 => ?_)
        · replace h := z_t h q21
          refine zg_aload_n dd_176_195 rfl (j := 1) rfl ?_
          refine zg_iload_n dd_176_196 rfl (j := 0) rfl ?_
          obtain ⟨r22, e23, h⟩ := z_bd h
          refine zg_invV_i (av := [.inl r1]) (st := []) (n := 1) dd_176_197 ca_180 zw_1297 zw_1299 zv_57 zMs_0 zcl_12 rfl (mt_fm_nameOf e23) rfl ⟨by omega, by decide⟩ (Nat.le_of_ble_eq_true rfl) ?_
          refine zg_sub [1] rfl ?_
          exact jt_fm_one_J200 hrc h
        · replace h := z_f h q21
          refine zg_iconst dd_176_191 kI_m1 ?_
          refine zg_goto (tgt := 200) dd_176_192 (by decide) ?_
          refine zg_sub [1] rfl ?_
          exact jt_fm_one_J200 hrc h
      · replace h := z_f h q20
        refine zg_iconst dd_176_127 kI_0 ?_
        refine zg_istore_n dd_176_128 rfl (Nat.le_of_ble_eq_true rfl) (lv' := [(2, .inl (0 : Int32)), (1, .inl r1), (0, .inr (.inr (some 0)))]) rfl ?_
        refine zg_iconst dd_176_129 kI_0 ?_
        refine zg_istore_n dd_176_130 rfl (Nat.le_of_ble_eq_true rfl) (lv' := [(3, .inl (0 : Int32)), (2, .inl (0 : Int32)), (1, .inl r1), (0, .inr (.inr (some 0)))]) rfl ?_
        refine zg_sub [3, 1, 0] rfl ?_
        refine lt_fm_one_L131 hrc  _ _ _ _ h
    · replace h := z_t h q17
      refine zg_sub [1, 0] rfl ?_
      exact jt_fm_one_J17 hrc h
set_option maxRecDepth 20000 in
theorem mt_fm_one : ∀ (nf : Nat) (I : zI) (res : zI), fm_one nf I = some res → zM (zdp 8 nf) ym_176 [.inr (.inr (some 0))] (zMs, zMr, I) none (zMs, zMr, res) 0 0
  | 0, I, res, h => by
    have h2 : none = some res := h
    cases h2
  | nf + 1, I, res, h => mt_fm_oneB (mt_fm_one nf) h
