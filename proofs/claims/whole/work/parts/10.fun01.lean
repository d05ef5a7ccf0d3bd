/-! TurnedLand.land(0, None) -/
def fc_T_land (I : zI) (a1 : Int32) : Option (Int32 × zI) :=
  if a1 = (0 : Int32) then
    (fc_Shape_corners I).bind fun r2 =>
    some (r2.1, r2.2)
  else if a1 = (1 : Int32) then
    (fc_T_edgesOnce I).bind fun r5 =>
    some (r5, I)
  else if a1 = (2 : Int32) then
    (fc_Shape_corners I).bind fun r8 =>
    (fc_T_edgesOnce r8.2).bind fun r10 =>
    some (((r8.1 - r10) + (r8.2 2 0)), r8.2)
  else if a1 = (3 : Int32) then
    (fc_Shape_parts I).bind fun r13 =>
    some (r13.1, r13.2)
  else if a1 = (4 : Int32) then
    (fc_Shape_rims I).bind fun r16 =>
    some (r16.1, r16.2)
  else if a1 = (5 : Int32) then
    (fc_Shape_turnsHome I (0 : Int32)).bind fun r19 =>
    if r19.1 = 0 then
      some ((0 : Int32), r19.2)
    else
      some ((1 : Int32), r19.2)
  else
    (fc_T_refuse I (1 : Int32)).bind fun r22 =>
    some (r22.1, r22.2)
set_option maxRecDepth 20000 in
theorem mt_fc_T_land {I : zI} {a1 : Int32} {res : (Int32 × zI)} (h : fc_T_land I a1 = some res) : zM 4 ym_16 [.inr (.inr (some 0)), .inl a1] (zCs, zCr, I) (some (.inl res.1)) (zCs, zCr, res.2) 0 0 := by
  refine zM_of (by decide) (Nat.le_of_ble_eq_true rfl) (lv := [(0, .inr (.inr (some 0))), (1, .inl a1)]) rfl ?_
  rw [fc_T_land] at h
  refine zg_aload_n dd_16_0 rfl (j := 0) rfl ?_
  refine zg_getR dd_16_1 zl_T_12 zCs_0 rfl zCr_0_0 ?_
  refine zg_getR dd_16_4 zl_T_76 zCs_1 rfl zCr_1_0 ?_
  refine zg_astore_n dd_16_7 rfl (Nat.le_of_ble_eq_true rfl) (lv' := [(2, .inr (.inr (some 2))), (0, .inr (.inr (some 0))), (1, .inl a1)]) rfl ?_
  refine zg_iload_n dd_16_8 rfl (j := 2) rfl ?_
  rcases z_if h with ⟨q1, h⟩ | ⟨q1, h⟩
  · refine zg_tabIn (tgt := 48) 39 dd_16_9 q1 (by decide) (by decide) (by decide) ?_
    refine zg_aload_n dd_16_48 rfl (j := 1) rfl ?_
    refine zg_getR dd_16_49 zl_T_41 zCs_0 rfl zCr_0_7 ?_
    refine zg_aload_n dd_16_52 rfl (j := 0) rfl ?_
    obtain ⟨r2, e3, h⟩ := z_bd h
    refine zg_invV_i (av := [.inr (.inr (some 2))]) (st := []) (n := 1) dd_16_53 ca_17 zw_493 zw_494 zw_495 zCs_101 zcl_4 rfl (mt_fc_Shape_corners e3) rfl ⟨by decide +kernel, by decide⟩ (Nat.le_of_ble_eq_true rfl) ?_
    obtain rfl := Option.some.inj h
    exact zg_iret dd_16_56 rfl
  rcases z_if h with ⟨q4, h⟩ | ⟨q4, h⟩
  · refine zg_tabIn (tgt := 57) 48 dd_16_9 q4 (by decide) (by decide) (by decide) ?_
    refine zg_aload_n dd_16_57 rfl (j := 0) rfl ?_
    obtain ⟨r5, e6, h⟩ := z_bd h
    refine zg_invS_i (av := [.inr (.inr (some 2))]) (st := []) (n := 1) dd_16_58 ca_23 zw_516 zw_517 (mt_fc_T_edgesOnce e6) rfl ⟨by decide +kernel, by decide⟩ (Nat.le_of_ble_eq_true rfl) ?_
    obtain rfl := Option.some.inj h
    exact zg_iret dd_16_61 rfl
  rcases z_if h with ⟨q7, h⟩ | ⟨q7, h⟩
  · refine zg_tabIn (tgt := 62) 53 dd_16_9 q7 (by decide) (by decide) (by decide) ?_
    refine zg_aload_n dd_16_62 rfl (j := 1) rfl ?_
    refine zg_getR dd_16_63 zl_T_41 zCs_0 rfl zCr_0_7 ?_
    refine zg_aload_n dd_16_66 rfl (j := 0) rfl ?_
    obtain ⟨r8, e9, h⟩ := z_bd h
    refine zg_invV_i (av := [.inr (.inr (some 2))]) (st := []) (n := 1) dd_16_67 ca_17 zw_493 zw_494 zw_495 zCs_101 zcl_4 rfl (mt_fc_Shape_corners e9) rfl ⟨by decide +kernel, by decide⟩ (Nat.le_of_ble_eq_true rfl) ?_
    refine zg_aload_n dd_16_70 rfl (j := 0) rfl ?_
    obtain ⟨r10, e11, h⟩ := z_bd h
    refine zg_invS_i (av := [.inr (.inr (some 2))]) (st := [.inl r8.1]) (n := 1) dd_16_71 ca_23 zw_516 zw_517 (mt_fc_T_edgesOnce e11) rfl ⟨by decide +kernel, by decide⟩ (Nat.le_of_ble_eq_true rfl) ?_
    refine zg_isub dd_16_74 ?_
    refine zg_aload_n dd_16_75 rfl (j := 0) rfl ?_
    refine zg_getI (x := (r8.2 2 0)) dd_16_76 zl_T_88 zCs_2 rfl rfl ?_
    refine zg_iadd dd_16_79 ?_
    obtain rfl := Option.some.inj h
    exact zg_iret dd_16_80 rfl
  rcases z_if h with ⟨q12, h⟩ | ⟨q12, h⟩
  · refine zg_tabIn (tgt := 81) 72 dd_16_9 q12 (by decide) (by decide) (by decide) ?_
    refine zg_aload_n dd_16_81 rfl (j := 1) rfl ?_
    refine zg_getR dd_16_82 zl_T_41 zCs_0 rfl zCr_0_7 ?_
    refine zg_aload_n dd_16_85 rfl (j := 0) rfl ?_
    obtain ⟨r13, e14, h⟩ := z_bd h
    refine zg_invV_i (av := [.inr (.inr (some 2))]) (st := []) (n := 1) dd_16_86 ca_24 zw_519 zw_520 zw_521 zCs_101 zcl_4 rfl (mt_fc_Shape_parts e14) rfl ⟨by decide +kernel, by decide⟩ (Nat.le_of_ble_eq_true rfl) ?_
    obtain rfl := Option.some.inj h
    exact zg_iret dd_16_89 rfl
  rcases z_if h with ⟨q15, h⟩ | ⟨q15, h⟩
  · refine zg_tabIn (tgt := 90) 81 dd_16_9 q15 (by decide) (by decide) (by decide) ?_
    refine zg_aload_n dd_16_90 rfl (j := 1) rfl ?_
    refine zg_getR dd_16_91 zl_T_41 zCs_0 rfl zCr_0_7 ?_
    refine zg_aload_n dd_16_94 rfl (j := 0) rfl ?_
    obtain ⟨r16, e17, h⟩ := z_bd h
    refine zg_invV_i (av := [.inr (.inr (some 2))]) (st := []) (n := 1) dd_16_95 ca_25 zw_523 zw_524 zw_525 zCs_101 zcl_4 rfl (mt_fc_Shape_rims e17) rfl ⟨by decide +kernel, by decide⟩ (Nat.le_of_ble_eq_true rfl) ?_
    obtain rfl := Option.some.inj h
    exact zg_iret dd_16_98 rfl
  rcases z_if h with ⟨q18, h⟩ | ⟨q18, h⟩
  · refine zg_tabIn (tgt := 99) 90 dd_16_9 q18 (by decide) (by decide) (by decide) ?_
    refine zg_aload_n dd_16_99 rfl (j := 1) rfl ?_
    refine zg_getR dd_16_100 zl_T_41 zCs_0 rfl zCr_0_7 ?_
    refine zg_aload_n dd_16_103 rfl (j := 0) rfl ?_
    refine zg_iconst dd_16_104 kI_0 ?_
    obtain ⟨r19, e20, h⟩ := z_bd h
    refine zg_invV_i (av := [.inr (.inr (some 2)), .inl (0 : Int32)]) (st := []) (n := 2) dd_16_105 ca_27 zw_533 zw_534 zw_535 zCs_101 zcl_4 rfl (mt_fc_Shape_turnsHome e20) rfl ⟨by decide +kernel, by decide⟩ (Nat.le_of_ble_eq_true rfl) ?_
    refine zg_if_eq (tgt := 115) dd_16_108 (by decide) (fun q21 => ?_) (fun q21 => ?_)
    · replace h := z_t h q21
      refine zg_iconst dd_16_115 kI_0 ?_
      obtain rfl := Option.some.inj h
      exact zg_iret dd_16_116 rfl
    · replace h := z_f h q21
      refine zg_iconst dd_16_111 kI_1 ?_
      refine zg_goto (tgt := 116) dd_16_112 (by decide) ?_
      obtain rfl := Option.some.inj h
      exact zg_iret dd_16_116 rfl
  refine zg_tabOut (tgt := 117) [(0 : Int32), (1 : Int32), (2 : Int32), (3 : Int32), (4 : Int32), (5 : Int32)] dd_16_9 (by decide +kernel) (by simp only [List.mem_cons, List.not_mem_nil, or_false]; rintro _ (rfl | rfl | rfl | rfl | rfl | rfl) <;> assumption) (by decide) ?_
  refine zg_aload_n dd_16_117 rfl (j := 1) rfl ?_
  refine zg_iconst dd_16_118 kI_1 ?_
  obtain ⟨r22, e23, h⟩ := z_bd h
  refine zg_invV_i (av := [.inl (1 : Int32)]) (st := []) (n := 1) dd_16_119 ca_2 zw_430 zw_432 zv_0 zCs_0 zcl_11 rfl (mt_fc_T_refuse e23) rfl ⟨by decide +kernel, by decide⟩ (Nat.le_of_ble_eq_true rfl) ?_
  obtain rfl := Option.some.inj h
  exact zg_iret dd_16_122 rfl
/-! TurnedLand$Shape.leastCuts[101, 2] -/
def fc_Shape_leastCuts_L54 (k85 : Int32 → zI → Option (Int32 × zI)) : Nat → Int32 → Int32 → zI → Option (Int32 × zI)
  | 0, _, _, _ => none
  | nf + 1, v2, v3, I =>
    if (I 2 2) ≤ v3 then
      k85 v2 I
    else
      (fc_Shape_turnsHome I (((1 : Int32) <<< (v2 &&& 31)) ||| ((1 : Int32) <<< (v3 &&& 31)))).bind fun r7 =>
      if r7.1 = 0 then
        some ((2 : Int32), r7.2)
      else
        fc_Shape_leastCuts_L54 k85 nf v2 (v3 + (1 : Int32)) r7.2
def fc_Shape_leastCuts_L42 : Nat → Int32 → zI → Option (Int32 × zI)
  | 0, _, _ => none
  | nf + 1, v2, I =>
    if (I 2 2) ≤ v2 then
      some ((-1 : Int32), I)
    else
      fc_Shape_leastCuts_L54
        (fun (u10 : Int32) (J11 : zI) =>
          fc_Shape_leastCuts_L42 nf (u10 + (1 : Int32)) J11
        )
        100 v2 (v2 + (1 : Int32)) I
def fc_Shape_leastCuts_L13 : Nat → Int32 → zI → Option (Int32 × zI)
  | 0, _, _ => none
  | nf + 1, v2, I =>
    if (I 2 2) ≤ v2 then
      fc_Shape_leastCuts_L42
        100 (0 : Int32) I
    else
      (fc_Shape_turnsHome I ((1 : Int32) <<< (v2 &&& 31))).bind fun r12 =>
      if r12.1 = 0 then
        some ((1 : Int32), r12.2)
      else
        fc_Shape_leastCuts_L13 nf (v2 + (1 : Int32)) r12.2
def fc_Shape_leastCuts (I : zI) : Option (Int32 × zI) :=
  (fc_Shape_turnsHome I (0 : Int32)).bind fun r1 =>
  if r1.1 = 0 then
    some ((0 : Int32), r1.2)
  else
    fc_Shape_leastCuts_L13
      100 (0 : Int32) r1.2
set_option maxRecDepth 20000 in
theorem lt_fc_Shape_leastCuts_L54 {res : (Int32 × zI)} {k85 : Int32 → zI → Option (Int32 × zI)} (hk85 : ∀ (v2 : Int32) (J : zI), k85 v2 J = some res → zG 4 ym_31 0 0 (some (.inl res.1)) (zCs, zCr, res.2) zCs.length 85 [(0, .inr (.inr (some 101))), (1, .inr (.inr (some 2))), (2, .inl v2)] [] (zCs, zCr, J) 0 0) : ∀ (nf : Nat) (v2 : Int32) (v3 : Int32) (I : zI), fc_Shape_leastCuts_L54 k85 nf v2 v3 I = some res → zG 4 ym_31 0 0 (some (.inl res.1)) (zCs, zCr, res.2) zCs.length 54 [(0, .inr (.inr (some 101))), (1, .inr (.inr (some 2))), (2, .inl v2), (3, .inl v3)] [] (zCs, zCr, I) 0 0 := by
  intro nf
  induction nf with
  | zero =>
    intro v2 v3 I h
    have h2 : none = some res := h
    cases h2
  | succ nf ih =>
    intro v2 v3 I h
    rw [fc_Shape_leastCuts_L54] at h
    refine zg_iload_n dd_31_54 rfl (j := 3) rfl ?_
    refine zg_aload_n dd_31_55 rfl (j := 1) rfl ?_
    refine zg_getI (x := (I 2 2)) dd_31_56 zl_Shape_36 zCs_2 rfl rfl ?_
    refine zg_icmp_ge (tgt := 85) dd_31_59 (by decide) (fun q6 => ?_) (fun q6 => ?_)
    · replace h := z_t h q6
      refine zg_sub [0, 1, 2] rfl ?_
      exact hk85 _ _ h
    · replace h := z_f h q6
      refine zg_aload_n dd_31_62 rfl (j := 0) rfl ?_
      refine zg_aload_n dd_31_63 rfl (j := 1) rfl ?_
      refine zg_iconst dd_31_64 kI_1 ?_
      refine zg_iload_n dd_31_65 rfl (j := 2) rfl ?_
      refine zg_ishl dd_31_66 ?_
      refine zg_iconst dd_31_67 kI_1 ?_
      refine zg_iload_n dd_31_68 rfl (j := 3) rfl ?_
      refine zg_ishl dd_31_69 ?_
      refine zg_ior dd_31_70 ?_
      obtain ⟨r7, e8, h⟩ := z_bd h
      refine zg_invV_i (av := [.inr (.inr (some 2)), .inl (((1 : Int32) <<< (v2 &&& 31)) ||| ((1 : Int32) <<< (v3 &&& 31)))]) (st := []) (n := 2) dd_31_71 ca_27 zw_550 zw_534 zw_535 zCs_101 zcl_4 rfl (mt_fc_Shape_turnsHome e8) rfl ⟨by decide +kernel, by decide⟩ (Nat.le_of_ble_eq_true rfl) ?_
      refine zg_if_ne (tgt := 79) dd_31_74 (by decide) (fun q9 => ?_) (fun q9 => ?_)
      · replace h := z_f h q9
        refine zg_iinc dd_31_79 (j := 3) rfl (v := (v3 + (1 : Int32))) (by rw [kI_1]) (Nat.le_of_ble_eq_true rfl) (lv' := [(3, .inl (v3 + (1 : Int32))), (0, .inr (.inr (some 101))), (1, .inr (.inr (some 2))), (2, .inl v2)]) rfl ?_
        refine zg_goto (tgt := 54) dd_31_82 (by decide) ?_
        refine zg_sub [1, 2, 3, 0] rfl ?_
        exact ih _ _ _ h
      · replace h := z_t h q9
        refine zg_iconst dd_31_77 kI_2 ?_
        obtain rfl := Option.some.inj h
        exact zg_iret dd_31_78 rfl
set_option maxRecDepth 20000 in
theorem lt_fc_Shape_leastCuts_L42 {res : (Int32 × zI)} : ∀ (nf : Nat) (v2 : Int32) (I : zI), fc_Shape_leastCuts_L42 nf v2 I = some res → zG 4 ym_31 0 0 (some (.inl res.1)) (zCs, zCr, res.2) zCs.length 42 [(0, .inr (.inr (some 101))), (1, .inr (.inr (some 2))), (2, .inl v2)] [] (zCs, zCr, I) 0 0 := by
  intro nf
  induction nf with
  | zero =>
    intro v2 I h
    have h2 : none = some res := h
    cases h2
  | succ nf ih =>
    intro v2 I h
    rw [fc_Shape_leastCuts_L42] at h
    refine zg_iload_n dd_31_42 rfl (j := 2) rfl ?_
    refine zg_aload_n dd_31_43 rfl (j := 1) rfl ?_
    refine zg_getI (x := (I 2 2)) dd_31_44 zl_Shape_36 zCs_2 rfl rfl ?_
    refine zg_icmp_ge (tgt := 91) dd_31_47 (by decide) (fun q5 => ?_) (fun q5 => ?_)
    · replace h := z_t h q5
      refine zg_iconst dd_31_91 kI_m1 ?_
      obtain rfl := Option.some.inj h
      exact zg_iret dd_31_92 rfl
    · replace h := z_f h q5
      refine zg_iload_n dd_31_50 rfl (j := 2) rfl ?_
      refine zg_iconst dd_31_51 kI_1 ?_
      refine zg_iadd dd_31_52 ?_
      refine zg_istore_n dd_31_53 rfl (Nat.le_of_ble_eq_true rfl) (lv' := [(3, .inl (v2 + (1 : Int32))), (0, .inr (.inr (some 101))), (1, .inr (.inr (some 2))), (2, .inl v2)]) rfl ?_
      refine zg_sub [1, 2, 3, 0] rfl ?_
      refine lt_fc_Shape_leastCuts_L54 ?_ _ _ _ _ h
      · intro u10 J11 h
        refine zg_iinc dd_31_85 (j := 2) rfl (v := (u10 + (1 : Int32))) (by rw [kI_1]) (Nat.le_of_ble_eq_true rfl) (lv' := [(2, .inl (u10 + (1 : Int32))), (0, .inr (.inr (some 101))), (1, .inr (.inr (some 2)))]) rfl ?_
        refine zg_goto (tgt := 42) dd_31_88 (by decide) ?_
        refine zg_sub [1, 2, 0] rfl ?_
        exact ih _ _ h
set_option maxRecDepth 20000 in
theorem lt_fc_Shape_leastCuts_L13 {res : (Int32 × zI)} : ∀ (nf : Nat) (v2 : Int32) (I : zI), fc_Shape_leastCuts_L13 nf v2 I = some res → zG 4 ym_31 0 0 (some (.inl res.1)) (zCs, zCr, res.2) zCs.length 13 [(0, .inr (.inr (some 101))), (1, .inr (.inr (some 2))), (2, .inl v2)] [] (zCs, zCr, I) 0 0 := by
  intro nf
  induction nf with
  | zero =>
    intro v2 I h
    have h2 : none = some res := h
    cases h2
  | succ nf ih =>
    intro v2 I h
    rw [fc_Shape_leastCuts_L13] at h
    refine zg_iload_n dd_31_13 rfl (j := 2) rfl ?_
    refine zg_aload_n dd_31_14 rfl (j := 1) rfl ?_
    refine zg_getI (x := (I 2 2)) dd_31_15 zl_Shape_36 zCs_2 rfl rfl ?_
    refine zg_icmp_ge (tgt := 40) dd_31_18 (by decide) (fun q4 => ?_) (fun q4 => ?_)
    · replace h := z_t h q4
      refine zg_iconst dd_31_40 kI_0 ?_
      refine zg_istore_n dd_31_41 rfl (Nat.le_of_ble_eq_true rfl) (lv' := [(2, .inl (0 : Int32)), (0, .inr (.inr (some 101))), (1, .inr (.inr (some 2)))]) rfl ?_
      refine zg_sub [1, 2, 0] rfl ?_
      refine lt_fc_Shape_leastCuts_L42  _ _ _ h
    · replace h := z_f h q4
      refine zg_aload_n dd_31_21 rfl (j := 0) rfl ?_
      refine zg_aload_n dd_31_22 rfl (j := 1) rfl ?_
      refine zg_iconst dd_31_23 kI_1 ?_
      refine zg_iload_n dd_31_24 rfl (j := 2) rfl ?_
      refine zg_ishl dd_31_25 ?_
      obtain ⟨r12, e13, h⟩ := z_bd h
      refine zg_invV_i (av := [.inr (.inr (some 2)), .inl ((1 : Int32) <<< (v2 &&& 31))]) (st := []) (n := 2) dd_31_26 ca_27 zw_550 zw_534 zw_535 zCs_101 zcl_4 rfl (mt_fc_Shape_turnsHome e13) rfl ⟨by decide +kernel, by decide⟩ (Nat.le_of_ble_eq_true rfl) ?_
      refine zg_if_ne (tgt := 34) dd_31_29 (by decide) (fun q14 => ?_) (fun q14 => ?_)
      · replace h := z_f h q14
        refine zg_iinc dd_31_34 (j := 2) rfl (v := (v2 + (1 : Int32))) (by rw [kI_1]) (Nat.le_of_ble_eq_true rfl) (lv' := [(2, .inl (v2 + (1 : Int32))), (0, .inr (.inr (some 101))), (1, .inr (.inr (some 2)))]) rfl ?_
        refine zg_goto (tgt := 13) dd_31_37 (by decide) ?_
        refine zg_sub [1, 2, 0] rfl ?_
        exact ih _ _ h
      · replace h := z_t h q14
        refine zg_iconst dd_31_32 kI_1 ?_
        obtain rfl := Option.some.inj h
        exact zg_iret dd_31_33 rfl
set_option maxRecDepth 20000 in
theorem mt_fc_Shape_leastCuts {I : zI} {res : (Int32 × zI)} (h : fc_Shape_leastCuts I = some res) : zM 4 ym_31 [.inr (.inr (some 101)), .inr (.inr (some 2))] (zCs, zCr, I) (some (.inl res.1)) (zCs, zCr, res.2) 0 0 := by
  refine zM_of (by decide) (Nat.le_of_ble_eq_true rfl) (lv := [(0, .inr (.inr (some 101))), (1, .inr (.inr (some 2)))]) rfl ?_
  rw [fc_Shape_leastCuts] at h
  refine zg_aload_n dd_31_0 rfl (j := 0) rfl ?_
  refine zg_aload_n dd_31_1 rfl (j := 1) rfl ?_
  refine zg_iconst dd_31_2 kI_0 ?_
  obtain ⟨r1, e2, h⟩ := z_bd h
  refine zg_invV_i (av := [.inr (.inr (some 2)), .inl (0 : Int32)]) (st := []) (n := 2) dd_31_3 ca_27 zw_550 zw_534 zw_535 zCs_101 zcl_4 rfl (mt_fc_Shape_turnsHome e2) rfl ⟨by decide +kernel, by decide⟩ (Nat.le_of_ble_eq_true rfl) ?_
  refine zg_if_ne (tgt := 11) dd_31_6 (by decide) (fun q3 => ?_) (fun q3 => ?_)
  · replace h := z_f h q3
    refine zg_iconst dd_31_11 kI_0 ?_
    refine zg_istore_n dd_31_12 rfl (Nat.le_of_ble_eq_true rfl) (lv' := [(2, .inl (0 : Int32)), (0, .inr (.inr (some 101))), (1, .inr (.inr (some 2)))]) rfl ?_
    refine zg_sub [1, 2, 0] rfl ?_
    refine lt_fc_Shape_leastCuts_L13  _ _ _ h
  · replace h := z_t h q3
    refine zg_iconst dd_31_9 kI_0 ?_
    obtain rfl := Option.some.inj h
    exact zg_iret dd_31_10 rfl
/-! TurnedLand.plain(0,) -/
def fc_T_plain (I : zI) : Option (Int32 × zI) :=
  (fc_Shape_leastCuts I).bind fun r1 =>
  if 0 ≤ r1.1 then
    some (r1.1, r1.2)
  else
    (fc_T_refuse r1.2 (2 : Int32)).bind fun r4 =>
    some (r4.1, r4.2)
set_option maxRecDepth 20000 in
theorem mt_fc_T_plain {I : zI} {res : (Int32 × zI)} (h : fc_T_plain I = some res) : zM 5 ym_30 [.inr (.inr (some 0))] (zCs, zCr, I) (some (.inl res.1)) (zCs, zCr, res.2) 0 0 := by
  refine zM_of (by decide) (Nat.le_of_ble_eq_true rfl) (lv := [(0, .inr (.inr (some 0)))]) rfl ?_
  rw [fc_T_plain] at h
  refine zg_aload_n dd_30_0 rfl (j := 0) rfl ?_
  refine zg_getR dd_30_1 zl_T_41 zCs_0 rfl zCr_0_7 ?_
  refine zg_aload_n dd_30_4 rfl (j := 0) rfl ?_
  refine zg_getR dd_30_5 zl_T_12 zCs_0 rfl zCr_0_0 ?_
  refine zg_getR dd_30_8 zl_T_76 zCs_1 rfl zCr_1_0 ?_
  obtain ⟨r1, e2, h⟩ := z_bd h
  refine zg_invV_i (av := [.inr (.inr (some 2))]) (st := []) (n := 1) dd_30_11 ca_31 zw_546 zw_547 zw_548 zCs_101 zcl_4 rfl (mt_fc_Shape_leastCuts e2) rfl ⟨by decide +kernel, by decide⟩ (Nat.le_of_ble_eq_true rfl) ?_
  refine zg_istore_n dd_30_14 rfl (Nat.le_of_ble_eq_true rfl) (lv' := [(1, .inl r1.1), (0, .inr (.inr (some 0)))]) rfl ?_
  refine zg_iload_n dd_30_15 rfl (j := 0) rfl ?_
  refine zg_if_ge (tgt := 27) dd_30_16 (by decide) (fun q3 => ?_) (fun q3 => ?_)
  · replace h := z_t h q3
    refine zg_iload_n dd_30_27 rfl (j := 0) rfl ?_
    obtain rfl := Option.some.inj h
    exact zg_iret dd_30_28 rfl
  · replace h := z_f h q3
    refine zg_aload_n dd_30_19 rfl (j := 1) rfl ?_
    refine zg_iconst dd_30_20 kI_2 ?_
    obtain ⟨r4, e5, h⟩ := z_bd h
    refine zg_invV_i (av := [.inl (2 : Int32)]) (st := []) (n := 1) dd_30_21 ca_2 zw_430 zw_432 zv_0 zCs_0 zcl_11 rfl (mt_fc_T_refuse e5) rfl ⟨by decide +kernel, by decide⟩ (Nat.le_of_ble_eq_true rfl) ?_
    refine zg_goto (tgt := 28) dd_30_24 (by decide) ?_
    obtain rfl := Option.some.inj h
    exact zg_iret dd_30_28 rfl
/-! TurnedLand.feed(0, None, None) -/
def fc_T_feed_L39 : Nat → Int64 → Int32 → Int32 → zI → Option (Int32 × zI)
  | 0, _, _, _, _ => none
  | nf + 1, v1, v3, v4, I =>
    if v3 ≤ v4 then
      some ((I 1 7), I)
    else
      z_guard (zb (I 1 7) 60) <|
      fc_T_feed_L39 nf v1 v3 (v4 + (1 : Int32)) (zup (zup I 45 (I 1 7).toNatClampNeg ((Int64.toInt32 (zlushr v1 ((8 : Int32) * v4))) &&& (255 : Int32))) 1 7 ((I 1 7) + (1 : Int32)))
def fc_T_feed (I : zI) (a1 : Int64) (a3 : Int32) : Option (Int32 × zI) :=
  (fc_T_within I a3 (1 : Int32) (8 : Int32)).bind fun r1 =>
  if r1 = 0 then
    (fc_T_refuse I (1 : Int32)).bind fun r9 =>
    some (r9.1, r9.2)
  else
    if ((I 1 7) + a3) ≤ (60 : Int32) then
      fc_T_feed_L39
        100 a1 a3 (0 : Int32) I
    else
      (fc_T_refuse I (4 : Int32)).bind fun r7 =>
      some (r7.1, r7.2)
set_option maxRecDepth 20000 in
theorem lt_fc_T_feed_L39 {res : (Int32 × zI)} : ∀ (nf : Nat) (v1 : Int64) (v3 : Int32) (v4 : Int32) (I : zI), fc_T_feed_L39 nf v1 v3 v4 I = some res → zG 3 ym_32 0 0 (some (.inl res.1)) (zCs, zCr, res.2) zCs.length 39 [(0, .inr (.inr (some 0))), (1, .inr (.inl v1)), (3, .inl v3), (4, .inl v4)] [] (zCs, zCr, I) 0 0 := by
  intro nf
  induction nf with
  | zero =>
    intro v1 v3 v4 I h
    have h2 : none = some res := h
    cases h2
  | succ nf ih =>
    intro v1 v3 v4 I h
    rw [fc_T_feed_L39] at h
    refine zg_iload dd_32_39 (j := 3) rfl ?_
    refine zg_iload_n dd_32_41 rfl (j := 2) rfl ?_
    refine zg_icmp_ge (tgt := 91) dd_32_42 (by decide) (fun q5 => ?_) (fun q5 => ?_)
    · replace h := z_t h q5
      refine zg_aload_n dd_32_91 rfl (j := 0) rfl ?_
      refine zg_getR dd_32_92 zl_T_12 zCs_0 rfl zCr_0_0 ?_
      refine zg_getI (x := (I 1 7)) dd_32_95 zl_T_155 zCs_1 rfl rfl ?_
      obtain rfl := Option.some.inj h
      exact zg_iret dd_32_98 rfl
    · replace h := z_f h q5
      refine zg_aload_n dd_32_45 rfl (j := 0) rfl ?_
      refine zg_getR dd_32_46 zl_T_12 zCs_0 rfl zCr_0_0 ?_
      refine zg_getR dd_32_49 zl_T_158 zCs_1 rfl zCr_1_6 ?_
      refine zg_aload_n dd_32_52 rfl (j := 0) rfl ?_
      refine zg_getR dd_32_53 zl_T_12 zCs_0 rfl zCr_0_0 ?_
      refine zg_getI (x := (I 1 7)) dd_32_56 zl_T_155 zCs_1 rfl rfl ?_
      refine zg_lload_n dd_32_59 rfl (j := 1) rfl ?_
      refine zg_bipush dd_32_60 kB_8 ?_
      refine zg_iload dd_32_62 (j := 3) rfl ?_
      refine zg_imul dd_32_64 ?_
      refine zg_lushr dd_32_65 ?_
      refine zg_l2i dd_32_66 ?_
      refine zg_sipush dd_32_67 kS_255 ?_
      refine zg_iand dd_32_70 ?_
      obtain ⟨g6, h⟩ := z_gd h
      refine zg_iast dd_32_71 zCs_45 g6 ?_
      refine zg_aload_n dd_32_72 rfl (j := 0) rfl ?_
      refine zg_getR dd_32_73 zl_T_12 zCs_0 rfl zCr_0_0 ?_
      refine zg_dup dd_32_76 rfl ?_
      refine zg_getI (x := (I 1 7)) dd_32_77 zl_T_155 zCs_1 rfl rfl ?_
      refine zg_iconst dd_32_80 kI_1 ?_
      refine zg_iadd dd_32_81 ?_
      refine zg_putI dd_32_82 zp_T_155 zCs_1 rfl (zSt_int _) ?_
      refine zg_iinc dd_32_85 (j := 3) rfl (v := (v4 + (1 : Int32))) (by rw [kI_1]) (Nat.le_of_ble_eq_true rfl) (lv' := [(4, .inl (v4 + (1 : Int32))), (0, .inr (.inr (some 0))), (1, .inr (.inl v1)), (3, .inl v3)]) rfl ?_
      refine zg_goto (tgt := 39) dd_32_88 (by decide) ?_
      refine zg_sub [1, 2, 3, 0] rfl ?_
      exact ih _ _ _ _ h
set_option maxRecDepth 20000 in
theorem mt_fc_T_feed {I : zI} {a1 : Int64} {a3 : Int32} {res : (Int32 × zI)} (h : fc_T_feed I a1 a3 = some res) : zM 3 ym_32 [.inr (.inr (some 0)), .inr (.inl a1), .inl a3] (zCs, zCr, I) (some (.inl res.1)) (zCs, zCr, res.2) 0 0 := by
  refine zM_of (by decide) (Nat.le_of_ble_eq_true rfl) (lv := [(0, .inr (.inr (some 0))), (1, .inr (.inl a1)), (3, .inl a3)]) rfl ?_
  rw [fc_T_feed] at h
  refine zg_iload_n dd_32_0 rfl (j := 2) rfl ?_
  refine zg_iconst dd_32_1 kI_1 ?_
  refine zg_bipush dd_32_2 kB_8 ?_
  obtain ⟨r1, e2, h⟩ := z_bd h
  refine zg_invS_i (av := [.inl a3, .inl (1 : Int32), .inl (8 : Int32)]) (st := []) (n := 3) dd_32_4 ca_1 zw_427 zw_428 (mt_fc_T_within e2) rfl ⟨by decide +kernel, by decide⟩ (Nat.le_of_ble_eq_true rfl) ?_
  refine zg_if_ne (tgt := 16) dd_32_7 (by decide) (fun q3 => ?_) (fun q3 => ?_)
  · replace h := z_f h q3
    refine zg_aload_n dd_32_16 rfl (j := 0) rfl ?_
    refine zg_getR dd_32_17 zl_T_12 zCs_0 rfl zCr_0_0 ?_
    refine zg_getI (x := (I 1 7)) dd_32_20 zl_T_155 zCs_1 rfl rfl ?_
    refine zg_iload_n dd_32_23 rfl (j := 2) rfl ?_
    refine zg_iadd dd_32_24 ?_
    refine zg_bipush dd_32_25 kB_60 ?_
    refine zg_icmp_le (tgt := 36) dd_32_27 (by decide) (fun q4 => ?_) (fun q4 => ?_)
    · replace h := z_t h q4
      refine zg_iconst dd_32_36 kI_0 ?_
      refine zg_istore dd_32_37 (Nat.le_of_ble_eq_true rfl) (lv' := [(4, .inl (0 : Int32)), (0, .inr (.inr (some 0))), (1, .inr (.inl a1)), (3, .inl a3)]) rfl ?_
      refine zg_sub [1, 2, 3, 0] rfl ?_
      refine lt_fc_T_feed_L39  _ _ _ _ _ h
    · replace h := z_f h q4
      refine zg_aload_n dd_32_30 rfl (j := 0) rfl ?_
      refine zg_iconst dd_32_31 kI_4 ?_
      obtain ⟨r7, e8, h⟩ := z_bd h
      refine zg_invV_i (av := [.inl (4 : Int32)]) (st := []) (n := 1) dd_32_32 ca_2 zw_430 zw_432 zv_0 zCs_0 zcl_11 rfl (mt_fc_T_refuse e8) rfl ⟨by decide +kernel, by decide⟩ (Nat.le_of_ble_eq_true rfl) ?_
      obtain rfl := Option.some.inj h
      exact zg_iret dd_32_35 rfl
  · replace h := z_t h q3
    refine zg_aload_n dd_32_10 rfl (j := 0) rfl ?_
    refine zg_iconst dd_32_11 kI_1 ?_
    obtain ⟨r9, e10, h⟩ := z_bd h
    refine zg_invV_i (av := [.inl (1 : Int32)]) (st := []) (n := 1) dd_32_12 ca_2 zw_430 zw_432 zv_0 zCs_0 zcl_11 rfl (mt_fc_T_refuse e10) rfl ⟨by decide +kernel, by decide⟩ (Nat.le_of_ble_eq_true rfl) ?_
    obtain rfl := Option.some.inj h
    exact zg_iret dd_32_15 rfl
/-! TurnedLand$Reader.next[180] -/
def fc_Reader_next (I : zI) : Option Int32 :=
  if (I 180 5) ≤ (I 180 3) then
    some (-1 : Int32)
  else
    if (60 : Int32) ≤ (I 180 3) then
      some (-1 : Int32)
    else
      z_guard (zb (I 180 3) 60) <|
      some (I 183 (I 180 3).toNatClampNeg)
set_option maxRecDepth 20000 in
theorem mt_fc_Reader_next {I : zI} {res : Int32} (h : fc_Reader_next I = some res) : zM 1 ym_41 [.inr (.inr (some 180))] (zCs, zCr, I) (some (.inl res)) (zCs, zCr, I) 0 0 := by
  refine zM_of (by decide) (Nat.le_of_ble_eq_true rfl) (lv := [(0, .inr (.inr (some 180)))]) rfl ?_
  rw [fc_Reader_next] at h
  refine zg_aload_n dd_41_0 rfl (j := 0) rfl ?_
  refine zg_getI (x := (I 180 3)) dd_41_1 zl_Reader_22 zCs_180 rfl rfl ?_
  refine zg_aload_n dd_41_4 rfl (j := 0) rfl ?_
  refine zg_getI (x := (I 180 5)) dd_41_5 zl_Reader_28 zCs_180 rfl rfl ?_
  refine zg_icmp_ge (tgt := 32) dd_41_8 (by decide) (fun q1 => ?_) (fun q1 => ?_)
  · replace h := z_t h q1
    refine zg_iconst dd_41_32 kI_m1 ?_
    obtain rfl := Option.some.inj h
    exact zg_iret dd_41_33 rfl
  · replace h := z_f h q1
    refine zg_aload_n dd_41_11 rfl (j := 0) rfl ?_
    refine zg_getI (x := (I 180 3)) dd_41_12 zl_Reader_22 zCs_180 rfl rfl ?_
    refine zg_bipush dd_41_15 kB_60 ?_
    refine zg_icmp_ge (tgt := 32) dd_41_17 (by decide) (fun q2 => ?_) (fun q2 => ?_)
    · replace h := z_t h q2
      refine zg_iconst dd_41_32 kI_m1 ?_
      obtain rfl := Option.some.inj h
      exact zg_iret dd_41_33 rfl
    · replace h := z_f h q2
      refine zg_aload_n dd_41_20 rfl (j := 0) rfl ?_
      refine zg_getR dd_41_21 zl_Reader_25 zCs_180 rfl zCr_180_4 ?_
      refine zg_aload_n dd_41_24 rfl (j := 0) rfl ?_
      refine zg_getI (x := (I 180 3)) dd_41_25 zl_Reader_22 zCs_180 rfl rfl ?_
      obtain ⟨g3, h⟩ := z_gd h
      refine zg_iald (w := (I 183 (I 180 3).toNatClampNeg)) dd_41_28 zCs_183 g3 rfl ?_
      refine zg_goto (tgt := 33) dd_41_29 (by decide) ?_
      obtain rfl := Option.some.inj h
      exact zg_iret dd_41_33 rfl
/-! TurnedLand$Reader.write[180, None, None] -/
def fc_Reader_write (I : zI) (a1 : Int32) (a2 : Int32) : Option zI :=
  if (I 180 2) < (60 : Int32) then
    z_guard (zb (I 180 2) 60) <|
    some (zup (zup (zup I 181 (I 180 2).toNatClampNeg a1) 182 (I 180 2).toNatClampNeg a2) 180 2 ((I 180 2) + (1 : Int32)))
  else
    some I
set_option maxRecDepth 20000 in
theorem mt_fc_Reader_write {I : zI} {a1 : Int32} {a2 : Int32} {res : zI} (h : fc_Reader_write I a1 a2 = some res) : zM 1 ym_42 [.inr (.inr (some 180)), .inl a1, .inl a2] (zCs, zCr, I) none (zCs, zCr, res) 0 0 := by
  refine zM_of (by decide) (Nat.le_of_ble_eq_true rfl) (lv := [(0, .inr (.inr (some 180))), (1, .inl a1), (2, .inl a2)]) rfl ?_
  rw [fc_Reader_write] at h
  refine zg_aload_n dd_42_0 rfl (j := 0) rfl ?_
  refine zg_getI (x := (I 180 2)) dd_42_1 zl_Reader_18 zCs_180 rfl rfl ?_
  refine zg_bipush dd_42_4 kB_60 ?_
  refine zg_icmp_lt (tgt := 10) dd_42_6 (by decide) (fun q1 => ?_) (fun q1 => ?_)
  · replace h := z_t h q1
    refine zg_aload_n dd_42_10 rfl (j := 0) rfl ?_
    refine zg_getR dd_42_11 zl_Reader_9 zCs_180 rfl zCr_180_0 ?_
    refine zg_aload_n dd_42_14 rfl (j := 0) rfl ?_
    refine zg_getI (x := (I 180 2)) dd_42_15 zl_Reader_18 zCs_180 rfl rfl ?_
    refine zg_iload_n dd_42_18 rfl (j := 1) rfl ?_
    obtain ⟨g2, h⟩ := z_gd h
    refine zg_iast dd_42_19 zCs_181 g2 ?_
    refine zg_aload_n dd_42_20 rfl (j := 0) rfl ?_
    refine zg_getR dd_42_21 zl_Reader_15 zCs_180 rfl zCr_180_1 ?_
    refine zg_aload_n dd_42_24 rfl (j := 0) rfl ?_
    refine zg_getI (x := (I 180 2)) dd_42_25 zl_Reader_18 zCs_180 rfl rfl ?_
    refine zg_iload_n dd_42_28 rfl (j := 2) rfl ?_
    refine zg_iast dd_42_29 zCs_182 g2 ?_
    refine zg_aload_n dd_42_30 rfl (j := 0) rfl ?_
    refine zg_dup dd_42_31 rfl ?_
    refine zg_getI (x := (I 180 2)) dd_42_32 zl_Reader_18 zCs_180 rfl rfl ?_
    refine zg_iconst dd_42_35 kI_1 ?_
    refine zg_iadd dd_42_36 ?_
    refine zg_putI dd_42_37 zp_Reader_18 zCs_180 rfl (zSt_int _) ?_
    obtain rfl := Option.some.inj h
    exact zg_vret dd_42_40 rfl
  · replace h := z_f h q1
    obtain rfl := Option.some.inj h
    exact zg_vret dd_42_9 rfl
/-! TurnedLand$Reader.readProduct[180, None] -/
def fc_Reader_readProduct_L12 (rc : zI → Int32 → Option (Int32 × zI)) : Nat → Int32 → Int32 → zI → Option (Int32 × zI)
  | 0, _, _, _ => none
  | nf + 1, v1, v2, I =>
    if (60 : Int32) ≤ v2 then
      some ((1 : Int32), I)
    else
      (fc_Reader_next I).bind fun r5 =>
      if r5 = (42 : Int32) then
        (rc (zup I 180 3 ((I 180 3) + (1 : Int32))) v1).bind fun r8 =>
        if r8.1 = 0 then
          some ((0 : Int32), r8.2)
        else
          (fc_Reader_write r8.2 r5 (0 : Int32)).bind fun r11 =>
          fc_Reader_readProduct_L12 rc nf v1 (v2 + (1 : Int32)) r11
      else
        if r5 = (47 : Int32) then
          (rc (zup I 180 3 ((I 180 3) + (1 : Int32))) v1).bind fun r14 =>
          if r14.1 = 0 then
            some ((0 : Int32), r14.2)
          else
            (fc_Reader_write r14.2 r5 (0 : Int32)).bind fun r17 =>
            fc_Reader_readProduct_L12 rc nf v1 (v2 + (1 : Int32)) r17
        else
          if r5 = (37 : Int32) then
            (rc (zup I 180 3 ((I 180 3) + (1 : Int32))) v1).bind fun r20 =>
            if r20.1 = 0 then
              some ((0 : Int32), r20.2)
            else
              (fc_Reader_write r20.2 r5 (0 : Int32)).bind fun r23 =>
              fc_Reader_readProduct_L12 rc nf v1 (v2 + (1 : Int32)) r23
          else
            some ((1 : Int32), I)
def fc_Reader_readProduct (rc : zI → Int32 → Option (Int32 × zI)) (I : zI) (a1 : Int32) : Option (Int32 × zI) :=
  (rc I a1).bind fun r1 =>
  if r1.1 = 0 then
    some ((0 : Int32), r1.2)
  else
    fc_Reader_readProduct_L12 rc
      100 a1 (0 : Int32) r1.2
set_option maxRecDepth 20000 in
theorem lt_fc_Reader_readProduct_L12 {rc : zI → Int32 → Option (Int32 × zI)} {dd : Nat} (hrc : ∀ (I : zI) (x0 : Int32) (res : (Int32 × zI)), rc I x0 = some res → zM dd ym_40 [.inr (.inr (some 180)), .inl x0] (zCs, zCr, I) (some (.inl res.1)) (zCs, zCr, res.2) 0 0) {res : (Int32 × zI)} : ∀ (nf : Nat) (v1 : Int32) (v2 : Int32) (I : zI), fc_Reader_readProduct_L12 rc nf v1 v2 I = some res → zG (dd + 2) ym_39 0 0 (some (.inl res.1)) (zCs, zCr, res.2) zCs.length 12 [(0, .inr (.inr (some 180))), (1, .inl v1), (2, .inl v2)] [] (zCs, zCr, I) 0 0 := by
  intro nf
  induction nf with
  | zero =>
    intro v1 v2 I h
    have h2 : none = some res := h
    cases h2
  | succ nf ih =>
    intro v1 v2 I h
    rw [fc_Reader_readProduct_L12] at h
    refine zg_iload_n dd_39_12 rfl (j := 2) rfl ?_
    refine zg_bipush dd_39_13 kB_60 ?_
    refine zg_icmp_ge (tgt := 76) dd_39_15 (by decide) (fun q4 => ?_) (fun q4 => ?_)
    · replace h := z_t h q4
      refine zg_iconst dd_39_76 kI_1 ?_
      obtain rfl := Option.some.inj h
      exact zg_zret dd_39_77 rfl zSt_b1.1
    · replace h := z_f h q4
      refine zg_aload_n dd_39_18 rfl (j := 0) rfl ?_
      obtain ⟨r5, e6, h⟩ := z_bd h
      refine zg_invV_i (av := []) (st := []) (n := 0) dd_39_19 ca_41 zw_590 zw_592 zv_12 zCs_180 zcl_3 rfl (mt_fc_Reader_next e6) rfl ⟨by omega, by decide⟩ (Nat.le_of_ble_eq_true rfl) ?_
      refine zg_istore_n dd_39_22 rfl (Nat.le_of_ble_eq_true rfl) (lv' := [(3, .inl r5), (0, .inr (.inr (some 180))), (1, .inl v1), (2, .inl v2)]) rfl ?_
      refine zg_iload_n dd_39_23 rfl (j := 0) rfl ?_
      refine zg_bipush dd_39_24 kB_42 ?_
      refine zg_icmp_eq (tgt := 44) dd_39_26 (by decide) (fun q7 => ?_) (fun q7 => ?_)
      · replace h := z_t h q7
        refine zg_aload_n dd_39_44 rfl (j := 1) rfl ?_
        refine zg_dup dd_39_45 rfl ?_
        refine zg_getI (x := (I 180 3)) dd_39_46 zl_Reader_22 zCs_180 rfl rfl ?_
        refine zg_iconst dd_39_49 kI_1 ?_
        refine zg_iadd dd_39_50 ?_
        refine zg_putI dd_39_51 zp_Reader_22 zCs_180 rfl (zSt_int _) ?_
        refine zg_aload_n dd_39_54 rfl (j := 1) rfl ?_
        refine zg_iload_n dd_39_55 rfl (j := 2) rfl ?_
        obtain ⟨r8, e9, h⟩ := z_bd h
        refine zg_invV_i (av := [.inl v1]) (st := []) (n := 1) dd_39_56 ca_40 zw_586 zw_588 zv_11 zCs_180 zcl_3 rfl (hrc _ _ _ e9) rfl ⟨by omega, by decide⟩ (Nat.le_of_ble_eq_true rfl) ?_
        refine zg_if_ne (tgt := 64) dd_39_59 (by decide) (fun q10 => ?_) (fun q10 => ?_)
        · replace h := z_f h q10
          refine zg_aload_n dd_39_64 rfl (j := 1) rfl ?_
          refine zg_iload_n dd_39_65 rfl (j := 0) rfl ?_
          refine zg_iconst dd_39_66 kI_0 ?_
          obtain ⟨r11, e12, h⟩ := z_bd h
          refine zg_invV_v (av := [.inl r5, .inl (0 : Int32)]) (st := []) (n := 2) dd_39_67 ca_42 zw_602 zw_604 zv_14 zCs_180 zcl_3 rfl (mt_fc_Reader_write e12) rfl ⟨by omega, by decide⟩ (Nat.le_of_ble_eq_true rfl) ?_
          refine zg_iinc dd_39_70 (j := 3) rfl (v := (v2 + (1 : Int32))) (by rw [kI_1]) (Nat.le_of_ble_eq_true rfl) (lv' := [(2, .inl (v2 + (1 : Int32))), (3, .inl r5), (0, .inr (.inr (some 180))), (1, .inl v1)]) rfl ?_
          refine zg_goto (tgt := 12) dd_39_73 (by decide) ?_
          refine zg_sub [2, 3, 0] rfl ?_
          exact ih _ _ _ h
        · replace h := z_t h q10
          refine zg_iconst dd_39_62 kI_0 ?_
          obtain rfl := Option.some.inj h
          exact zg_zret dd_39_63 rfl zSt_b0.1
      · replace h := z_f h q7
        refine zg_iload_n dd_39_29 rfl (j := 0) rfl ?_
        refine zg_bipush dd_39_30 kB_47 ?_
        refine zg_icmp_eq (tgt := 44) dd_39_32 (by decide) (fun q13 => ?_) (fun q13 => ?_)
        · replace h := z_t h q13
          refine zg_aload_n dd_39_44 rfl (j := 1) rfl ?_
          refine zg_dup dd_39_45 rfl ?_
          refine zg_getI (x := (I 180 3)) dd_39_46 zl_Reader_22 zCs_180 rfl rfl ?_
          refine zg_iconst dd_39_49 kI_1 ?_
          refine zg_iadd dd_39_50 ?_
          refine zg_putI dd_39_51 zp_Reader_22 zCs_180 rfl (zSt_int _) ?_
          refine zg_aload_n dd_39_54 rfl (j := 1) rfl ?_
          refine zg_iload_n dd_39_55 rfl (j := 2) rfl ?_
          obtain ⟨r14, e15, h⟩ := z_bd h
          refine zg_invV_i (av := [.inl v1]) (st := []) (n := 1) dd_39_56 ca_40 zw_586 zw_588 zv_11 zCs_180 zcl_3 rfl (hrc _ _ _ e15) rfl ⟨by omega, by decide⟩ (Nat.le_of_ble_eq_true rfl) ?_
          refine zg_if_ne (tgt := 64) dd_39_59 (by decide) (fun q16 => ?_) (fun q16 => ?_)
          · replace h := z_f h q16
            refine zg_aload_n dd_39_64 rfl (j := 1) rfl ?_
            refine zg_iload_n dd_39_65 rfl (j := 0) rfl ?_
            refine zg_iconst dd_39_66 kI_0 ?_
            obtain ⟨r17, e18, h⟩ := z_bd h
            refine zg_invV_v (av := [.inl r5, .inl (0 : Int32)]) (st := []) (n := 2) dd_39_67 ca_42 zw_602 zw_604 zv_14 zCs_180 zcl_3 rfl (mt_fc_Reader_write e18) rfl ⟨by omega, by decide⟩ (Nat.le_of_ble_eq_true rfl) ?_
            refine zg_iinc dd_39_70 (j := 3) rfl (v := (v2 + (1 : Int32))) (by rw [kI_1]) (Nat.le_of_ble_eq_true rfl) (lv' := [(2, .inl (v2 + (1 : Int32))), (3, .inl r5), (0, .inr (.inr (some 180))), (1, .inl v1)]) rfl ?_
            refine zg_goto (tgt := 12) dd_39_73 (by decide) ?_
            refine zg_sub [2, 3, 0] rfl ?_
            exact ih _ _ _ h
          · replace h := z_t h q16
            refine zg_iconst dd_39_62 kI_0 ?_
            obtain rfl := Option.some.inj h
            exact zg_zret dd_39_63 rfl zSt_b0.1
        · replace h := z_f h q13
          refine zg_iload_n dd_39_35 rfl (j := 0) rfl ?_
          refine zg_bipush dd_39_36 kB_37 ?_
          refine zg_icmp_eq (tgt := 44) dd_39_38 (by decide) (fun q19 => ?_) (fun q19 => ?_)
          · replace h := z_t h q19
            refine zg_aload_n dd_39_44 rfl (j := 1) rfl ?_
            refine zg_dup dd_39_45 rfl ?_
            refine zg_getI (x := (I 180 3)) dd_39_46 zl_Reader_22 zCs_180 rfl rfl ?_
            refine zg_iconst dd_39_49 kI_1 ?_
            refine zg_iadd dd_39_50 ?_
            refine zg_putI dd_39_51 zp_Reader_22 zCs_180 rfl (zSt_int _) ?_
            refine zg_aload_n dd_39_54 rfl (j := 1) rfl ?_
            refine zg_iload_n dd_39_55 rfl (j := 2) rfl ?_
            obtain ⟨r20, e21, h⟩ := z_bd h
            refine zg_invV_i (av := [.inl v1]) (st := []) (n := 1) dd_39_56 ca_40 zw_586 zw_588 zv_11 zCs_180 zcl_3 rfl (hrc _ _ _ e21) rfl ⟨by omega, by decide⟩ (Nat.le_of_ble_eq_true rfl) ?_
            refine zg_if_ne (tgt := 64) dd_39_59 (by decide) (fun q22 => ?_) (fun q22 => ?_)
            · replace h := z_f h q22
              refine zg_aload_n dd_39_64 rfl (j := 1) rfl ?_
              refine zg_iload_n dd_39_65 rfl (j := 0) rfl ?_
              refine zg_iconst dd_39_66 kI_0 ?_
              obtain ⟨r23, e24, h⟩ := z_bd h
              refine zg_invV_v (av := [.inl r5, .inl (0 : Int32)]) (st := []) (n := 2) dd_39_67 ca_42 zw_602 zw_604 zv_14 zCs_180 zcl_3 rfl (mt_fc_Reader_write e24) rfl ⟨by omega, by decide⟩ (Nat.le_of_ble_eq_true rfl) ?_
              refine zg_iinc dd_39_70 (j := 3) rfl (v := (v2 + (1 : Int32))) (by rw [kI_1]) (Nat.le_of_ble_eq_true rfl) (lv' := [(2, .inl (v2 + (1 : Int32))), (3, .inl r5), (0, .inr (.inr (some 180))), (1, .inl v1)]) rfl ?_
              refine zg_goto (tgt := 12) dd_39_73 (by decide) ?_
              refine zg_sub [2, 3, 0] rfl ?_
              exact ih _ _ _ h
            · replace h := z_t h q22
              refine zg_iconst dd_39_62 kI_0 ?_
              obtain rfl := Option.some.inj h
              exact zg_zret dd_39_63 rfl zSt_b0.1
          · replace h := z_f h q19
            refine zg_goto (tgt := 76) dd_39_41 (by decide) ?_
            refine zg_iconst dd_39_76 kI_1 ?_
            obtain rfl := Option.some.inj h
            exact zg_zret dd_39_77 rfl zSt_b1.1
set_option maxRecDepth 20000 in
theorem mt_fc_Reader_readProduct {rc : zI → Int32 → Option (Int32 × zI)} {dd : Nat} (hrc : ∀ (I : zI) (x0 : Int32) (res : (Int32 × zI)), rc I x0 = some res → zM dd ym_40 [.inr (.inr (some 180)), .inl x0] (zCs, zCr, I) (some (.inl res.1)) (zCs, zCr, res.2) 0 0) {I : zI} {a1 : Int32} {res : (Int32 × zI)} (h : fc_Reader_readProduct rc I a1 = some res) : zM (dd + 2) ym_39 [.inr (.inr (some 180)), .inl a1] (zCs, zCr, I) (some (.inl res.1)) (zCs, zCr, res.2) 0 0 := by
  refine zM_of (by decide) (Nat.le_of_ble_eq_true rfl) (lv := [(0, .inr (.inr (some 180))), (1, .inl a1)]) rfl ?_
  rw [fc_Reader_readProduct] at h
  refine zg_aload_n dd_39_0 rfl (j := 0) rfl ?_
  refine zg_iload_n dd_39_1 rfl (j := 1) rfl ?_
  obtain ⟨r1, e2, h⟩ := z_bd h
  refine zg_invV_i (av := [.inl a1]) (st := []) (n := 1) dd_39_2 ca_40 zw_586 zw_588 zv_11 zCs_180 zcl_3 rfl (hrc _ _ _ e2) rfl ⟨by omega, by decide⟩ (Nat.le_of_ble_eq_true rfl) ?_
  refine zg_if_ne (tgt := 10) dd_39_5 (by decide) (fun q3 => ?_) (fun q3 => ?_)
  · replace h := z_f h q3
    refine zg_iconst dd_39_10 kI_0 ?_
    refine zg_istore_n dd_39_11 rfl (Nat.le_of_ble_eq_true rfl) (lv' := [(2, .inl (0 : Int32)), (0, .inr (.inr (some 180))), (1, .inl a1)]) rfl ?_
    refine zg_sub [1, 2, 0] rfl ?_
    refine lt_fc_Reader_readProduct_L12 hrc  _ _ _ _ h
  · replace h := z_t h q3
    refine zg_iconst dd_39_8 kI_0 ?_
    obtain rfl := Option.some.inj h
    exact zg_zret dd_39_9 rfl zSt_b0.1
/-! TurnedLand$Reader.readSum[180, None] -/
def fc_Reader_readSum_L12 (rc : zI → Int32 → Option (Int32 × zI)) : Nat → Int32 → Int32 → zI → Option (Int32 × zI)
  | 0, _, _, _ => none
  | nf + 1, v1, v2, I =>
    if (60 : Int32) ≤ v2 then
      some ((1 : Int32), I)
    else
      (fc_Reader_next I).bind fun r5 =>
      if r5 = (43 : Int32) then
        (fc_Reader_readProduct rc (zup I 180 3 ((I 180 3) + (1 : Int32))) v1).bind fun r8 =>
        if r8.1 = 0 then
          some ((0 : Int32), r8.2)
        else
          (fc_Reader_write r8.2 r5 (0 : Int32)).bind fun r11 =>
          fc_Reader_readSum_L12 rc nf v1 (v2 + (1 : Int32)) r11
      else
        if r5 = (45 : Int32) then
          (fc_Reader_readProduct rc (zup I 180 3 ((I 180 3) + (1 : Int32))) v1).bind fun r14 =>
          if r14.1 = 0 then
            some ((0 : Int32), r14.2)
          else
            (fc_Reader_write r14.2 r5 (0 : Int32)).bind fun r17 =>
            fc_Reader_readSum_L12 rc nf v1 (v2 + (1 : Int32)) r17
        else
          some ((1 : Int32), I)
def fc_Reader_readSum (rc : zI → Int32 → Option (Int32 × zI)) (I : zI) (a1 : Int32) : Option (Int32 × zI) :=
  (fc_Reader_readProduct rc I a1).bind fun r1 =>
  if r1.1 = 0 then
    some ((0 : Int32), r1.2)
  else
    fc_Reader_readSum_L12 rc
      100 a1 (0 : Int32) r1.2
set_option maxRecDepth 20000 in
theorem lt_fc_Reader_readSum_L12 {rc : zI → Int32 → Option (Int32 × zI)} {dd : Nat} (hrc : ∀ (I : zI) (x0 : Int32) (res : (Int32 × zI)), rc I x0 = some res → zM dd ym_40 [.inr (.inr (some 180)), .inl x0] (zCs, zCr, I) (some (.inl res.1)) (zCs, zCr, res.2) 0 0) {res : (Int32 × zI)} : ∀ (nf : Nat) (v1 : Int32) (v2 : Int32) (I : zI), fc_Reader_readSum_L12 rc nf v1 v2 I = some res → zG (dd + 3) ym_38 0 0 (some (.inl res.1)) (zCs, zCr, res.2) zCs.length 12 [(0, .inr (.inr (some 180))), (1, .inl v1), (2, .inl v2)] [] (zCs, zCr, I) 0 0 := by
  intro nf
  induction nf with
  | zero =>
    intro v1 v2 I h
    have h2 : none = some res := h
    cases h2
  | succ nf ih =>
    intro v1 v2 I h
    rw [fc_Reader_readSum_L12] at h
    refine zg_iload_n dd_38_12 rfl (j := 2) rfl ?_
    refine zg_bipush dd_38_13 kB_60 ?_
    refine zg_icmp_ge (tgt := 70) dd_38_15 (by decide) (fun q4 => ?_) (fun q4 => ?_)
    · replace h := z_t h q4
      refine zg_iconst dd_38_70 kI_1 ?_
      obtain rfl := Option.some.inj h
      exact zg_zret dd_38_71 rfl zSt_b1.1
    · replace h := z_f h q4
      refine zg_aload_n dd_38_18 rfl (j := 0) rfl ?_
      obtain ⟨r5, e6, h⟩ := z_bd h
      refine zg_invV_i (av := []) (st := []) (n := 0) dd_38_19 ca_41 zw_590 zw_592 zv_12 zCs_180 zcl_3 rfl (mt_fc_Reader_next e6) rfl ⟨by omega, by decide⟩ (Nat.le_of_ble_eq_true rfl) ?_
      refine zg_istore_n dd_38_22 rfl (Nat.le_of_ble_eq_true rfl) (lv' := [(3, .inl r5), (0, .inr (.inr (some 180))), (1, .inl v1), (2, .inl v2)]) rfl ?_
      refine zg_iload_n dd_38_23 rfl (j := 0) rfl ?_
      refine zg_bipush dd_38_24 kB_43 ?_
      refine zg_icmp_eq (tgt := 38) dd_38_26 (by decide) (fun q7 => ?_) (fun q7 => ?_)
      · replace h := z_t h q7
        refine zg_aload_n dd_38_38 rfl (j := 1) rfl ?_
        refine zg_dup dd_38_39 rfl ?_
        refine zg_getI (x := (I 180 3)) dd_38_40 zl_Reader_22 zCs_180 rfl rfl ?_
        refine zg_iconst dd_38_43 kI_1 ?_
        refine zg_iadd dd_38_44 ?_
        refine zg_putI dd_38_45 zp_Reader_22 zCs_180 rfl (zSt_int _) ?_
        refine zg_aload_n dd_38_48 rfl (j := 1) rfl ?_
        refine zg_iload_n dd_38_49 rfl (j := 2) rfl ?_
        obtain ⟨r8, e9, h⟩ := z_bd h
        refine zg_invV_i (av := [.inl v1]) (st := []) (n := 1) dd_38_50 ca_39 zw_582 zw_584 zv_10 zCs_180 zcl_3 rfl (mt_fc_Reader_readProduct hrc e9) rfl ⟨by omega, by decide⟩ (Nat.le_of_ble_eq_true rfl) ?_
        refine zg_if_ne (tgt := 58) dd_38_53 (by decide) (fun q10 => ?_) (fun q10 => ?_)
        · replace h := z_f h q10
          refine zg_aload_n dd_38_58 rfl (j := 1) rfl ?_
          refine zg_iload_n dd_38_59 rfl (j := 0) rfl ?_
          refine zg_iconst dd_38_60 kI_0 ?_
          obtain ⟨r11, e12, h⟩ := z_bd h
          refine zg_invV_v (av := [.inl r5, .inl (0 : Int32)]) (st := []) (n := 2) dd_38_61 ca_42 zw_602 zw_604 zv_14 zCs_180 zcl_3 rfl (mt_fc_Reader_write e12) rfl ⟨by omega, by decide⟩ (Nat.le_of_ble_eq_true rfl) ?_
          refine zg_iinc dd_38_64 (j := 3) rfl (v := (v2 + (1 : Int32))) (by rw [kI_1]) (Nat.le_of_ble_eq_true rfl) (lv' := [(2, .inl (v2 + (1 : Int32))), (3, .inl r5), (0, .inr (.inr (some 180))), (1, .inl v1)]) rfl ?_
          refine zg_goto (tgt := 12) dd_38_67 (by decide) ?_
          refine zg_sub [2, 3, 0] rfl ?_
          exact ih _ _ _ h
        · replace h := z_t h q10
          refine zg_iconst dd_38_56 kI_0 ?_
          obtain rfl := Option.some.inj h
          exact zg_zret dd_38_57 rfl zSt_b0.1
      · replace h := z_f h q7
        refine zg_iload_n dd_38_29 rfl (j := 0) rfl ?_
        refine zg_bipush dd_38_30 kB_45 ?_
        refine zg_icmp_eq (tgt := 38) dd_38_32 (by decide) (fun q13 => ?_) (fun q13 => ?_)
        · replace h := z_t h q13
          refine zg_aload_n dd_38_38 rfl (j := 1) rfl ?_
          refine zg_dup dd_38_39 rfl ?_
          refine zg_getI (x := (I 180 3)) dd_38_40 zl_Reader_22 zCs_180 rfl rfl ?_
          refine zg_iconst dd_38_43 kI_1 ?_
          refine zg_iadd dd_38_44 ?_
          refine zg_putI dd_38_45 zp_Reader_22 zCs_180 rfl (zSt_int _) ?_
          refine zg_aload_n dd_38_48 rfl (j := 1) rfl ?_
          refine zg_iload_n dd_38_49 rfl (j := 2) rfl ?_
          obtain ⟨r14, e15, h⟩ := z_bd h
          refine zg_invV_i (av := [.inl v1]) (st := []) (n := 1) dd_38_50 ca_39 zw_582 zw_584 zv_10 zCs_180 zcl_3 rfl (mt_fc_Reader_readProduct hrc e15) rfl ⟨by omega, by decide⟩ (Nat.le_of_ble_eq_true rfl) ?_
          refine zg_if_ne (tgt := 58) dd_38_53 (by decide) (fun q16 => ?_) (fun q16 => ?_)
          · replace h := z_f h q16
            refine zg_aload_n dd_38_58 rfl (j := 1) rfl ?_
            refine zg_iload_n dd_38_59 rfl (j := 0) rfl ?_
            refine zg_iconst dd_38_60 kI_0 ?_
            obtain ⟨r17, e18, h⟩ := z_bd h
            refine zg_invV_v (av := [.inl r5, .inl (0 : Int32)]) (st := []) (n := 2) dd_38_61 ca_42 zw_602 zw_604 zv_14 zCs_180 zcl_3 rfl (mt_fc_Reader_write e18) rfl ⟨by omega, by decide⟩ (Nat.le_of_ble_eq_true rfl) ?_
            refine zg_iinc dd_38_64 (j := 3) rfl (v := (v2 + (1 : Int32))) (by rw [kI_1]) (Nat.le_of_ble_eq_true rfl) (lv' := [(2, .inl (v2 + (1 : Int32))), (3, .inl r5), (0, .inr (.inr (some 180))), (1, .inl v1)]) rfl ?_
            refine zg_goto (tgt := 12) dd_38_67 (by decide) ?_
            refine zg_sub [2, 3, 0] rfl ?_
            exact ih _ _ _ h
          · replace h := z_t h q16
            refine zg_iconst dd_38_56 kI_0 ?_
            obtain rfl := Option.some.inj h
            exact zg_zret dd_38_57 rfl zSt_b0.1
        · replace h := z_f h q13
          refine zg_goto (tgt := 70) dd_38_35 (by decide) ?_
          refine zg_iconst dd_38_70 kI_1 ?_
          obtain rfl := Option.some.inj h
          exact zg_zret dd_38_71 rfl zSt_b1.1
set_option maxRecDepth 20000 in
theorem mt_fc_Reader_readSum {rc : zI → Int32 → Option (Int32 × zI)} {dd : Nat} (hrc : ∀ (I : zI) (x0 : Int32) (res : (Int32 × zI)), rc I x0 = some res → zM dd ym_40 [.inr (.inr (some 180)), .inl x0] (zCs, zCr, I) (some (.inl res.1)) (zCs, zCr, res.2) 0 0) {I : zI} {a1 : Int32} {res : (Int32 × zI)} (h : fc_Reader_readSum rc I a1 = some res) : zM (dd + 3) ym_38 [.inr (.inr (some 180)), .inl a1] (zCs, zCr, I) (some (.inl res.1)) (zCs, zCr, res.2) 0 0 := by
  refine zM_of (by decide) (Nat.le_of_ble_eq_true rfl) (lv := [(0, .inr (.inr (some 180))), (1, .inl a1)]) rfl ?_
  rw [fc_Reader_readSum] at h
  refine zg_aload_n dd_38_0 rfl (j := 0) rfl ?_
  refine zg_iload_n dd_38_1 rfl (j := 1) rfl ?_
  obtain ⟨r1, e2, h⟩ := z_bd h
  refine zg_invV_i (av := [.inl a1]) (st := []) (n := 1) dd_38_2 ca_39 zw_582 zw_584 zv_10 zCs_180 zcl_3 rfl (mt_fc_Reader_readProduct hrc e2) rfl ⟨by omega, by decide⟩ (Nat.le_of_ble_eq_true rfl) ?_
  refine zg_if_ne (tgt := 10) dd_38_5 (by decide) (fun q3 => ?_) (fun q3 => ?_)
  · replace h := z_f h q3
    refine zg_iconst dd_38_10 kI_0 ?_
    refine zg_istore_n dd_38_11 rfl (Nat.le_of_ble_eq_true rfl) (lv' := [(2, .inl (0 : Int32)), (0, .inr (.inr (some 180))), (1, .inl a1)]) rfl ?_
    refine zg_sub [1, 2, 0] rfl ?_
    refine lt_fc_Reader_readSum_L12 hrc  _ _ _ _ h
  · replace h := z_t h q3
    refine zg_iconst dd_38_8 kI_0 ?_
    obtain rfl := Option.some.inj h
    exact zg_zret dd_38_9 rfl zSt_b0.1
/-! TurnedLand$Reader.readCompared[180, None] -/
def fc_Reader_readCompared (rc : zI → Int32 → Option (Int32 × zI)) (I : zI) (a1 : Int32) : Option (Int32 × zI) :=
  (fc_Reader_readSum rc I a1).bind fun r1 =>
  if r1.1 = 0 then
    some ((0 : Int32), r1.2)
  else
    (fc_Reader_next r1.2).bind fun r4 =>
    if r4 = (60 : Int32) then
      (fc_Reader_readSum rc (zup r1.2 180 3 ((r1.2 180 3) + (1 : Int32))) a1).bind fun r7 =>
      if r7.1 = 0 then
        some ((0 : Int32), r7.2)
      else
        (fc_Reader_write r7.2 r4 (0 : Int32)).bind fun r10 =>
        some ((1 : Int32), r10)
    else
      if r4 = (61 : Int32) then
        (fc_Reader_readSum rc (zup r1.2 180 3 ((r1.2 180 3) + (1 : Int32))) a1).bind fun r13 =>
        if r13.1 = 0 then
          some ((0 : Int32), r13.2)
        else
          (fc_Reader_write r13.2 r4 (0 : Int32)).bind fun r16 =>
          some ((1 : Int32), r16)
      else
        if r4 = (62 : Int32) then
          (fc_Reader_readSum rc (zup r1.2 180 3 ((r1.2 180 3) + (1 : Int32))) a1).bind fun r19 =>
          if r19.1 = 0 then
            some ((0 : Int32), r19.2)
          else
            (fc_Reader_write r19.2 r4 (0 : Int32)).bind fun r22 =>
            some ((1 : Int32), r22)
        else
          some ((1 : Int32), r1.2)
set_option maxRecDepth 20000 in
theorem mt_fc_Reader_readCompared {rc : zI → Int32 → Option (Int32 × zI)} {dd : Nat} (hrc : ∀ (I : zI) (x0 : Int32) (res : (Int32 × zI)), rc I x0 = some res → zM dd ym_40 [.inr (.inr (some 180)), .inl x0] (zCs, zCr, I) (some (.inl res.1)) (zCs, zCr, res.2) 0 0) {I : zI} {a1 : Int32} {res : (Int32 × zI)} (h : fc_Reader_readCompared rc I a1 = some res) : zM (dd + 4) ym_37 [.inr (.inr (some 180)), .inl a1] (zCs, zCr, I) (some (.inl res.1)) (zCs, zCr, res.2) 0 0 := by
  refine zM_of (by decide) (Nat.le_of_ble_eq_true rfl) (lv := [(0, .inr (.inr (some 180))), (1, .inl a1)]) rfl ?_
  rw [fc_Reader_readCompared] at h
  refine zg_aload_n dd_37_0 rfl (j := 0) rfl ?_
  refine zg_iload_n dd_37_1 rfl (j := 1) rfl ?_
  obtain ⟨r1, e2, h⟩ := z_bd h
  refine zg_invV_i (av := [.inl a1]) (st := []) (n := 1) dd_37_2 ca_38 zw_578 zw_580 zv_9 zCs_180 zcl_3 rfl (mt_fc_Reader_readSum hrc e2) rfl ⟨by omega, by decide⟩ (Nat.le_of_ble_eq_true rfl) ?_
  refine zg_if_ne (tgt := 10) dd_37_5 (by decide) (fun q3 => ?_) (fun q3 => ?_)
  · replace h := z_f h q3
    refine zg_aload_n dd_37_10 rfl (j := 0) rfl ?_
    obtain ⟨r4, e5, h⟩ := z_bd h
    refine zg_invV_i (av := []) (st := []) (n := 0) dd_37_11 ca_41 zw_590 zw_592 zv_12 zCs_180 zcl_3 rfl (mt_fc_Reader_next e5) rfl ⟨by omega, by decide⟩ (Nat.le_of_ble_eq_true rfl) ?_
    refine zg_istore_n dd_37_14 rfl (Nat.le_of_ble_eq_true rfl) (lv' := [(2, .inl r4), (0, .inr (.inr (some 180))), (1, .inl a1)]) rfl ?_
    refine zg_iload_n dd_37_15 rfl (j := 0) rfl ?_
    refine zg_bipush dd_37_16 kB_60 ?_
    refine zg_icmp_eq (tgt := 35) dd_37_18 (by decide) (fun q6 => ?_) (fun q6 => ?_)
    · replace h := z_t h q6
      refine zg_aload_n dd_37_35 rfl (j := 1) rfl ?_
      refine zg_dup dd_37_36 rfl ?_
      refine zg_getI (x := (r1.2 180 3)) dd_37_37 zl_Reader_22 zCs_180 rfl rfl ?_
      refine zg_iconst dd_37_40 kI_1 ?_
      refine zg_iadd dd_37_41 ?_
      refine zg_putI dd_37_42 zp_Reader_22 zCs_180 rfl (zSt_int _) ?_
      refine zg_aload_n dd_37_45 rfl (j := 1) rfl ?_
      refine zg_iload_n dd_37_46 rfl (j := 2) rfl ?_
      obtain ⟨r7, e8, h⟩ := z_bd h
      refine zg_invV_i (av := [.inl a1]) (st := []) (n := 1) dd_37_47 ca_38 zw_578 zw_580 zv_9 zCs_180 zcl_3 rfl (mt_fc_Reader_readSum hrc e8) rfl ⟨by omega, by decide⟩ (Nat.le_of_ble_eq_true rfl) ?_
      refine zg_if_ne (tgt := 55) dd_37_50 (by decide) (fun q9 => ?_) (fun q9 => ?_)
      · replace h := z_f h q9
        refine zg_aload_n dd_37_55 rfl (j := 1) rfl ?_
        refine zg_iload_n dd_37_56 rfl (j := 0) rfl ?_
        refine zg_iconst dd_37_57 kI_0 ?_
        obtain ⟨r10, e11, h⟩ := z_bd h
        refine zg_invV_v (av := [.inl r4, .inl (0 : Int32)]) (st := []) (n := 2) dd_37_58 ca_42 zw_602 zw_604 zv_14 zCs_180 zcl_3 rfl (mt_fc_Reader_write e11) rfl ⟨by omega, by decide⟩ (Nat.le_of_ble_eq_true rfl) ?_
        refine zg_iconst dd_37_61 kI_1 ?_
        obtain rfl := Option.some.inj h
        exact zg_zret dd_37_62 rfl zSt_b1.1
      · replace h := z_t h q9
        refine zg_iconst dd_37_53 kI_0 ?_
        obtain rfl := Option.some.inj h
        exact zg_zret dd_37_54 rfl zSt_b0.1
    · replace h := z_f h q6
      refine zg_iload_n dd_37_21 rfl (j := 0) rfl ?_
      refine zg_bipush dd_37_22 kB_61 ?_
      refine zg_icmp_eq (tgt := 35) dd_37_24 (by decide) (fun q12 => ?_) (fun q12 => ?_)
      · replace h := z_t h q12
        refine zg_aload_n dd_37_35 rfl (j := 1) rfl ?_
        refine zg_dup dd_37_36 rfl ?_
        refine zg_getI (x := (r1.2 180 3)) dd_37_37 zl_Reader_22 zCs_180 rfl rfl ?_
        refine zg_iconst dd_37_40 kI_1 ?_
        refine zg_iadd dd_37_41 ?_
        refine zg_putI dd_37_42 zp_Reader_22 zCs_180 rfl (zSt_int _) ?_
        refine zg_aload_n dd_37_45 rfl (j := 1) rfl ?_
        refine zg_iload_n dd_37_46 rfl (j := 2) rfl ?_
        obtain ⟨r13, e14, h⟩ := z_bd h
        refine zg_invV_i (av := [.inl a1]) (st := []) (n := 1) dd_37_47 ca_38 zw_578 zw_580 zv_9 zCs_180 zcl_3 rfl (mt_fc_Reader_readSum hrc e14) rfl ⟨by omega, by decide⟩ (Nat.le_of_ble_eq_true rfl) ?_
        refine zg_if_ne (tgt := 55) dd_37_50 (by decide) (fun q15 => ?_) (fun q15 => ?_)
        · replace h := z_f h q15
          refine zg_aload_n dd_37_55 rfl (j := 1) rfl ?_
          refine zg_iload_n dd_37_56 rfl (j := 0) rfl ?_
          refine zg_iconst dd_37_57 kI_0 ?_
          obtain ⟨r16, e17, h⟩ := z_bd h
          refine zg_invV_v (av := [.inl r4, .inl (0 : Int32)]) (st := []) (n := 2) dd_37_58 ca_42 zw_602 zw_604 zv_14 zCs_180 zcl_3 rfl (mt_fc_Reader_write e17) rfl ⟨by omega, by decide⟩ (Nat.le_of_ble_eq_true rfl) ?_
          refine zg_iconst dd_37_61 kI_1 ?_
          obtain rfl := Option.some.inj h
          exact zg_zret dd_37_62 rfl zSt_b1.1
        · replace h := z_t h q15
          refine zg_iconst dd_37_53 kI_0 ?_
          obtain rfl := Option.some.inj h
          exact zg_zret dd_37_54 rfl zSt_b0.1
      · replace h := z_f h q12
        refine zg_iload_n dd_37_27 rfl (j := 0) rfl ?_
        refine zg_bipush dd_37_28 kB_62 ?_
        refine zg_icmp_eq (tgt := 35) dd_37_30 (by decide) (fun q18 => ?_) (fun q18 => ?_)
        · replace h := z_t h q18
          refine zg_aload_n dd_37_35 rfl (j := 1) rfl ?_
          refine zg_dup dd_37_36 rfl ?_
          refine zg_getI (x := (r1.2 180 3)) dd_37_37 zl_Reader_22 zCs_180 rfl rfl ?_
          refine zg_iconst dd_37_40 kI_1 ?_
          refine zg_iadd dd_37_41 ?_
          refine zg_putI dd_37_42 zp_Reader_22 zCs_180 rfl (zSt_int _) ?_
          refine zg_aload_n dd_37_45 rfl (j := 1) rfl ?_
          refine zg_iload_n dd_37_46 rfl (j := 2) rfl ?_
          obtain ⟨r19, e20, h⟩ := z_bd h
          refine zg_invV_i (av := [.inl a1]) (st := []) (n := 1) dd_37_47 ca_38 zw_578 zw_580 zv_9 zCs_180 zcl_3 rfl (mt_fc_Reader_readSum hrc e20) rfl ⟨by omega, by decide⟩ (Nat.le_of_ble_eq_true rfl) ?_
          refine zg_if_ne (tgt := 55) dd_37_50 (by decide) (fun q21 => ?_) (fun q21 => ?_)
          · replace h := z_f h q21
            refine zg_aload_n dd_37_55 rfl (j := 1) rfl ?_
            refine zg_iload_n dd_37_56 rfl (j := 0) rfl ?_
            refine zg_iconst dd_37_57 kI_0 ?_
            obtain ⟨r22, e23, h⟩ := z_bd h
            refine zg_invV_v (av := [.inl r4, .inl (0 : Int32)]) (st := []) (n := 2) dd_37_58 ca_42 zw_602 zw_604 zv_14 zCs_180 zcl_3 rfl (mt_fc_Reader_write e23) rfl ⟨by omega, by decide⟩ (Nat.le_of_ble_eq_true rfl) ?_
            refine zg_iconst dd_37_61 kI_1 ?_
            obtain rfl := Option.some.inj h
            exact zg_zret dd_37_62 rfl zSt_b1.1
          · replace h := z_t h q21
            refine zg_iconst dd_37_53 kI_0 ?_
            obtain rfl := Option.some.inj h
            exact zg_zret dd_37_54 rfl zSt_b0.1
        · replace h := z_f h q18
          refine zg_iconst dd_37_33 kI_1 ?_
          obtain rfl := Option.some.inj h
          exact zg_zret dd_37_34 rfl zSt_b1.1
  · replace h := z_t h q3
    refine zg_iconst dd_37_8 kI_0 ?_
    obtain rfl := Option.some.inj h
    exact zg_zret dd_37_9 rfl zSt_b0.1
/-! TurnedLand$Reader.readAnd[180, None] -/
def fc_Reader_readAnd_L12 (rc : zI → Int32 → Option (Int32 × zI)) : Nat → Int32 → Int32 → zI → Option (Int32 × zI)
  | 0, _, _, _ => none
  | nf + 1, v1, v2, I =>
    if (60 : Int32) ≤ v2 then
      some ((1 : Int32), I)
    else
      (fc_Reader_next I).bind fun r5 =>
      if r5 = (38 : Int32) then
        (fc_Reader_readCompared rc (zup I 180 3 ((I 180 3) + (1 : Int32))) v1).bind fun r8 =>
        if r8.1 = 0 then
          some ((0 : Int32), r8.2)
        else
          (fc_Reader_write r8.2 (38 : Int32) (0 : Int32)).bind fun r11 =>
          fc_Reader_readAnd_L12 rc nf v1 (v2 + (1 : Int32)) r11
      else
        some ((1 : Int32), I)
def fc_Reader_readAnd (rc : zI → Int32 → Option (Int32 × zI)) (I : zI) (a1 : Int32) : Option (Int32 × zI) :=
  (fc_Reader_readCompared rc I a1).bind fun r1 =>
  if r1.1 = 0 then
    some ((0 : Int32), r1.2)
  else
    fc_Reader_readAnd_L12 rc
      100 a1 (0 : Int32) r1.2
set_option maxRecDepth 20000 in
theorem lt_fc_Reader_readAnd_L12 {rc : zI → Int32 → Option (Int32 × zI)} {dd : Nat} (hrc : ∀ (I : zI) (x0 : Int32) (res : (Int32 × zI)), rc I x0 = some res → zM dd ym_40 [.inr (.inr (some 180)), .inl x0] (zCs, zCr, I) (some (.inl res.1)) (zCs, zCr, res.2) 0 0) {res : (Int32 × zI)} : ∀ (nf : Nat) (v1 : Int32) (v2 : Int32) (I : zI), fc_Reader_readAnd_L12 rc nf v1 v2 I = some res → zG (dd + 5) ym_36 0 0 (some (.inl res.1)) (zCs, zCr, res.2) zCs.length 12 [(0, .inr (.inr (some 180))), (1, .inl v1), (2, .inl v2)] [] (zCs, zCr, I) 0 0 := by
  intro nf
  induction nf with
  | zero =>
    intro v1 v2 I h
    have h2 : none = some res := h
    cases h2
  | succ nf ih =>
    intro v1 v2 I h
    rw [fc_Reader_readAnd_L12] at h
    refine zg_iload_n dd_36_12 rfl (j := 2) rfl ?_
    refine zg_bipush dd_36_13 kB_60 ?_
    refine zg_icmp_ge (tgt := 60) dd_36_15 (by decide) (fun q4 => ?_) (fun q4 => ?_)
    · replace h := z_t h q4
      refine zg_iconst dd_36_60 kI_1 ?_
      obtain rfl := Option.some.inj h
      exact zg_zret dd_36_61 rfl zSt_b1.1
    · replace h := z_f h q4
      refine zg_aload_n dd_36_18 rfl (j := 0) rfl ?_
      obtain ⟨r5, e6, h⟩ := z_bd h
      refine zg_invV_i (av := []) (st := []) (n := 0) dd_36_19 ca_41 zw_590 zw_592 zv_12 zCs_180 zcl_3 rfl (mt_fc_Reader_next e6) rfl ⟨by omega, by decide⟩ (Nat.le_of_ble_eq_true rfl) ?_
      refine zg_bipush dd_36_22 kB_38 ?_
      refine zg_icmp_ne (tgt := 60) dd_36_24 (by decide) (fun q7 => ?_) (fun q7 => ?_)
      · replace h := z_f h q7
        refine zg_iconst dd_36_60 kI_1 ?_
        obtain rfl := Option.some.inj h
        exact zg_zret dd_36_61 rfl zSt_b1.1
      · replace h := z_t h q7
        refine zg_aload_n dd_36_27 rfl (j := 0) rfl ?_
        refine zg_dup dd_36_28 rfl ?_
        refine zg_getI (x := (I 180 3)) dd_36_29 zl_Reader_22 zCs_180 rfl rfl ?_
        refine zg_iconst dd_36_32 kI_1 ?_
        refine zg_iadd dd_36_33 ?_
        refine zg_putI dd_36_34 zp_Reader_22 zCs_180 rfl (zSt_int _) ?_
        refine zg_aload_n dd_36_37 rfl (j := 0) rfl ?_
        refine zg_iload_n dd_36_38 rfl (j := 1) rfl ?_
        obtain ⟨r8, e9, h⟩ := z_bd h
        refine zg_invV_i (av := [.inl v1]) (st := []) (n := 1) dd_36_39 ca_37 zw_574 zw_576 zv_8 zCs_180 zcl_3 rfl (mt_fc_Reader_readCompared hrc e9) rfl ⟨by omega, by decide⟩ (Nat.le_of_ble_eq_true rfl) ?_
        refine zg_if_ne (tgt := 47) dd_36_42 (by decide) (fun q10 => ?_) (fun q10 => ?_)
        · replace h := z_f h q10
          refine zg_aload_n dd_36_47 rfl (j := 0) rfl ?_
          refine zg_bipush dd_36_48 kB_38 ?_
          refine zg_iconst dd_36_50 kI_0 ?_
          obtain ⟨r11, e12, h⟩ := z_bd h
          refine zg_invV_v (av := [.inl (38 : Int32), .inl (0 : Int32)]) (st := []) (n := 2) dd_36_51 ca_42 zw_602 zw_604 zv_14 zCs_180 zcl_3 rfl (mt_fc_Reader_write e12) rfl ⟨by omega, by decide⟩ (Nat.le_of_ble_eq_true rfl) ?_
          refine zg_iinc dd_36_54 (j := 2) rfl (v := (v2 + (1 : Int32))) (by rw [kI_1]) (Nat.le_of_ble_eq_true rfl) (lv' := [(2, .inl (v2 + (1 : Int32))), (0, .inr (.inr (some 180))), (1, .inl v1)]) rfl ?_
          refine zg_goto (tgt := 12) dd_36_57 (by decide) ?_
          refine zg_sub [1, 2, 0] rfl ?_
          exact ih _ _ _ h
        · replace h := z_t h q10
          refine zg_iconst dd_36_45 kI_0 ?_
          obtain rfl := Option.some.inj h
          exact zg_zret dd_36_46 rfl zSt_b0.1
set_option maxRecDepth 20000 in
theorem mt_fc_Reader_readAnd {rc : zI → Int32 → Option (Int32 × zI)} {dd : Nat} (hrc : ∀ (I : zI) (x0 : Int32) (res : (Int32 × zI)), rc I x0 = some res → zM dd ym_40 [.inr (.inr (some 180)), .inl x0] (zCs, zCr, I) (some (.inl res.1)) (zCs, zCr, res.2) 0 0) {I : zI} {a1 : Int32} {res : (Int32 × zI)} (h : fc_Reader_readAnd rc I a1 = some res) : zM (dd + 5) ym_36 [.inr (.inr (some 180)), .inl a1] (zCs, zCr, I) (some (.inl res.1)) (zCs, zCr, res.2) 0 0 := by
  refine zM_of (by decide) (Nat.le_of_ble_eq_true rfl) (lv := [(0, .inr (.inr (some 180))), (1, .inl a1)]) rfl ?_
  rw [fc_Reader_readAnd] at h
  refine zg_aload_n dd_36_0 rfl (j := 0) rfl ?_
  refine zg_iload_n dd_36_1 rfl (j := 1) rfl ?_
  obtain ⟨r1, e2, h⟩ := z_bd h
  refine zg_invV_i (av := [.inl a1]) (st := []) (n := 1) dd_36_2 ca_37 zw_574 zw_576 zv_8 zCs_180 zcl_3 rfl (mt_fc_Reader_readCompared hrc e2) rfl ⟨by omega, by decide⟩ (Nat.le_of_ble_eq_true rfl) ?_
  refine zg_if_ne (tgt := 10) dd_36_5 (by decide) (fun q3 => ?_) (fun q3 => ?_)
  · replace h := z_f h q3
    refine zg_iconst dd_36_10 kI_0 ?_
    refine zg_istore_n dd_36_11 rfl (Nat.le_of_ble_eq_true rfl) (lv' := [(2, .inl (0 : Int32)), (0, .inr (.inr (some 180))), (1, .inl a1)]) rfl ?_
    refine zg_sub [1, 2, 0] rfl ?_
    refine lt_fc_Reader_readAnd_L12 hrc  _ _ _ _ h
  · replace h := z_t h q3
    refine zg_iconst dd_36_8 kI_0 ?_
    obtain rfl := Option.some.inj h
    exact zg_zret dd_36_9 rfl zSt_b0.1
/-! TurnedLand$Reader.readOr[180, None] -/
def fc_Reader_readOr_L12 (rc : zI → Int32 → Option (Int32 × zI)) : Nat → Int32 → Int32 → zI → Option (Int32 × zI)
  | 0, _, _, _ => none
  | nf + 1, v1, v2, I =>
    if (60 : Int32) ≤ v2 then
      some ((1 : Int32), I)
    else
      (fc_Reader_next I).bind fun r5 =>
      if r5 = (124 : Int32) then
        (fc_Reader_readAnd rc (zup I 180 3 ((I 180 3) + (1 : Int32))) v1).bind fun r8 =>
        if r8.1 = 0 then
          some ((0 : Int32), r8.2)
        else
          (fc_Reader_write r8.2 (124 : Int32) (0 : Int32)).bind fun r11 =>
          fc_Reader_readOr_L12 rc nf v1 (v2 + (1 : Int32)) r11
      else
        some ((1 : Int32), I)
def fc_Reader_readOr (rc : zI → Int32 → Option (Int32 × zI)) (I : zI) (a1 : Int32) : Option (Int32 × zI) :=
  (fc_Reader_readAnd rc I a1).bind fun r1 =>
  if r1.1 = 0 then
    some ((0 : Int32), r1.2)
  else
    fc_Reader_readOr_L12 rc
      100 a1 (0 : Int32) r1.2
set_option maxRecDepth 20000 in
theorem lt_fc_Reader_readOr_L12 {rc : zI → Int32 → Option (Int32 × zI)} {dd : Nat} (hrc : ∀ (I : zI) (x0 : Int32) (res : (Int32 × zI)), rc I x0 = some res → zM dd ym_40 [.inr (.inr (some 180)), .inl x0] (zCs, zCr, I) (some (.inl res.1)) (zCs, zCr, res.2) 0 0) {res : (Int32 × zI)} : ∀ (nf : Nat) (v1 : Int32) (v2 : Int32) (I : zI), fc_Reader_readOr_L12 rc nf v1 v2 I = some res → zG (dd + 6) ym_35 0 0 (some (.inl res.1)) (zCs, zCr, res.2) zCs.length 12 [(0, .inr (.inr (some 180))), (1, .inl v1), (2, .inl v2)] [] (zCs, zCr, I) 0 0 := by
  intro nf
  induction nf with
  | zero =>
    intro v1 v2 I h
    have h2 : none = some res := h
    cases h2
  | succ nf ih =>
    intro v1 v2 I h
    rw [fc_Reader_readOr_L12] at h
    refine zg_iload_n dd_35_12 rfl (j := 2) rfl ?_
    refine zg_bipush dd_35_13 kB_60 ?_
    refine zg_icmp_ge (tgt := 60) dd_35_15 (by decide) (fun q4 => ?_) (fun q4 => ?_)
    · replace h := z_t h q4
      refine zg_iconst dd_35_60 kI_1 ?_
      obtain rfl := Option.some.inj h
      exact zg_zret dd_35_61 rfl zSt_b1.1
    · replace h := z_f h q4
      refine zg_aload_n dd_35_18 rfl (j := 0) rfl ?_
      obtain ⟨r5, e6, h⟩ := z_bd h
      refine zg_invV_i (av := []) (st := []) (n := 0) dd_35_19 ca_41 zw_590 zw_592 zv_12 zCs_180 zcl_3 rfl (mt_fc_Reader_next e6) rfl ⟨by omega, by decide⟩ (Nat.le_of_ble_eq_true rfl) ?_
      refine zg_bipush dd_35_22 kB_124 ?_
      refine zg_icmp_ne (tgt := 60) dd_35_24 (by decide) (fun q7 => ?_) (fun q7 => ?_)
      · replace h := z_f h q7
        refine zg_iconst dd_35_60 kI_1 ?_
        obtain rfl := Option.some.inj h
        exact zg_zret dd_35_61 rfl zSt_b1.1
      · replace h := z_t h q7
        refine zg_aload_n dd_35_27 rfl (j := 0) rfl ?_
        refine zg_dup dd_35_28 rfl ?_
        refine zg_getI (x := (I 180 3)) dd_35_29 zl_Reader_22 zCs_180 rfl rfl ?_
        refine zg_iconst dd_35_32 kI_1 ?_
        refine zg_iadd dd_35_33 ?_
        refine zg_putI dd_35_34 zp_Reader_22 zCs_180 rfl (zSt_int _) ?_
        refine zg_aload_n dd_35_37 rfl (j := 0) rfl ?_
        refine zg_iload_n dd_35_38 rfl (j := 1) rfl ?_
        obtain ⟨r8, e9, h⟩ := z_bd h
        refine zg_invV_i (av := [.inl v1]) (st := []) (n := 1) dd_35_39 ca_36 zw_570 zw_572 zv_7 zCs_180 zcl_3 rfl (mt_fc_Reader_readAnd hrc e9) rfl ⟨by omega, by decide⟩ (Nat.le_of_ble_eq_true rfl) ?_
        refine zg_if_ne (tgt := 47) dd_35_42 (by decide) (fun q10 => ?_) (fun q10 => ?_)
        · replace h := z_f h q10
          refine zg_aload_n dd_35_47 rfl (j := 0) rfl ?_
          refine zg_bipush dd_35_48 kB_124 ?_
          refine zg_iconst dd_35_50 kI_0 ?_
          obtain ⟨r11, e12, h⟩ := z_bd h
          refine zg_invV_v (av := [.inl (124 : Int32), .inl (0 : Int32)]) (st := []) (n := 2) dd_35_51 ca_42 zw_602 zw_604 zv_14 zCs_180 zcl_3 rfl (mt_fc_Reader_write e12) rfl ⟨by omega, by decide⟩ (Nat.le_of_ble_eq_true rfl) ?_
          refine zg_iinc dd_35_54 (j := 2) rfl (v := (v2 + (1 : Int32))) (by rw [kI_1]) (Nat.le_of_ble_eq_true rfl) (lv' := [(2, .inl (v2 + (1 : Int32))), (0, .inr (.inr (some 180))), (1, .inl v1)]) rfl ?_
          refine zg_goto (tgt := 12) dd_35_57 (by decide) ?_
          refine zg_sub [1, 2, 0] rfl ?_
          exact ih _ _ _ h
        · replace h := z_t h q10
          refine zg_iconst dd_35_45 kI_0 ?_
          obtain rfl := Option.some.inj h
          exact zg_zret dd_35_46 rfl zSt_b0.1
set_option maxRecDepth 20000 in
theorem mt_fc_Reader_readOr {rc : zI → Int32 → Option (Int32 × zI)} {dd : Nat} (hrc : ∀ (I : zI) (x0 : Int32) (res : (Int32 × zI)), rc I x0 = some res → zM dd ym_40 [.inr (.inr (some 180)), .inl x0] (zCs, zCr, I) (some (.inl res.1)) (zCs, zCr, res.2) 0 0) {I : zI} {a1 : Int32} {res : (Int32 × zI)} (h : fc_Reader_readOr rc I a1 = some res) : zM (dd + 6) ym_35 [.inr (.inr (some 180)), .inl a1] (zCs, zCr, I) (some (.inl res.1)) (zCs, zCr, res.2) 0 0 := by
  refine zM_of (by decide) (Nat.le_of_ble_eq_true rfl) (lv := [(0, .inr (.inr (some 180))), (1, .inl a1)]) rfl ?_
  rw [fc_Reader_readOr] at h
  refine zg_aload_n dd_35_0 rfl (j := 0) rfl ?_
  refine zg_iload_n dd_35_1 rfl (j := 1) rfl ?_
  obtain ⟨r1, e2, h⟩ := z_bd h
  refine zg_invV_i (av := [.inl a1]) (st := []) (n := 1) dd_35_2 ca_36 zw_570 zw_572 zv_7 zCs_180 zcl_3 rfl (mt_fc_Reader_readAnd hrc e2) rfl ⟨by omega, by decide⟩ (Nat.le_of_ble_eq_true rfl) ?_
  refine zg_if_ne (tgt := 10) dd_35_5 (by decide) (fun q3 => ?_) (fun q3 => ?_)
  · replace h := z_f h q3
    refine zg_iconst dd_35_10 kI_0 ?_
    refine zg_istore_n dd_35_11 rfl (Nat.le_of_ble_eq_true rfl) (lv' := [(2, .inl (0 : Int32)), (0, .inr (.inr (some 180))), (1, .inl a1)]) rfl ?_
    refine zg_sub [1, 2, 0] rfl ?_
    refine lt_fc_Reader_readOr_L12 hrc  _ _ _ _ h
  · replace h := z_t h q3
    refine zg_iconst dd_35_8 kI_0 ?_
    obtain rfl := Option.some.inj h
    exact zg_zret dd_35_9 rfl zSt_b0.1
/-! TurnedLand$Reader.isDigit[None] -/
def fc_Reader_isDigit (I : zI) (a0 : Int32) : Option Int32 :=
  (fc_T_within I a0 (48 : Int32) (57 : Int32)).bind fun r1 =>
  z_guard (zbb r1) <|
  some r1
set_option maxRecDepth 20000 in
theorem mt_fc_Reader_isDigit {I : zI} {a0 : Int32} {res : Int32} (h : fc_Reader_isDigit I a0 = some res) : zM 2 ym_43 [.inl a0] (zCs, zCr, I) (some (.inl res)) (zCs, zCr, I) 0 0 := by
  refine zM_of (by decide) (Nat.le_of_ble_eq_true rfl) (lv := [(0, .inl a0)]) rfl ?_
  rw [fc_Reader_isDigit] at h
  refine zg_iload_n dd_43_0 rfl (j := 0) rfl ?_
  refine zg_bipush dd_43_1 kB_48 ?_
  refine zg_bipush dd_43_3 kB_57 ?_
  obtain ⟨r1, e2, h⟩ := z_bd h
  refine zg_invSN_i (av := [.inl a0, .inl (48 : Int32), .inl (57 : Int32)]) (st := []) (n := 3) dd_43_5 ca_1 (List.mem_of_getElem? (i := 11) rfl) zw_428 (mt_fc_T_within e2) rfl ⟨by decide +kernel, by decide⟩ (Nat.le_of_ble_eq_true rfl) ?_
  obtain ⟨g3, h⟩ := z_gd h
  obtain rfl := Option.some.inj h
  exact zg_zret dd_43_8 rfl (zSt_bb g3).1
/-! TurnedLand$Reader.readName[180, None] -/
def fc_Reader_readName_L19 : Nat → Int32 → Int32 → zI → Option (Int32 × zI)
  | 0, _, _, _ => none
  | nf + 1, v1, v3, I =>
    if (3 : Int32) ≤ v3 then
      some ((0 : Int32), I)
    else
      z_guard (zb v3 3) <|
      if (zLst [119, 97, 115] v3.toNatClampNeg) = v1 then
        (fc_Reader_write (zup I 180 3 ((I 180 3) + (1 : Int32))) (1 : Int32) v3).bind fun r5 =>
        some ((1 : Int32), r5)
      else
        fc_Reader_readName_L19 nf v1 (v3 + (1 : Int32)) I
def fc_Reader_readName_J16 (I : zI) (v1 : Int32) : Option (Int32 × zI) :=
  fc_Reader_readName_L19
    100 v1 (0 : Int32) I
def fc_Reader_readName_L19v2 : Nat → Int32 → Int32 → zI → Option (Int32 × zI)
  | 0, _, _, _ => none
  | nf + 1, v1, v3, I =>
    if (4 : Int32) ≤ v3 then
      some ((0 : Int32), I)
    else
      z_guard (zb v3 4) <|
      if (zLst [99, 100, 104, 106] v3.toNatClampNeg) = v1 then
        (fc_Reader_write (zup I 180 3 ((I 180 3) + (1 : Int32))) (1 : Int32) v3).bind fun r10 =>
        some ((1 : Int32), r10)
      else
        fc_Reader_readName_L19v2 nf v1 (v3 + (1 : Int32)) I
def fc_Reader_readName (I : zI) (a1 : Int32) : Option (Int32 × zI) :=
  if (I 180 6) = 0 then
    fc_Reader_readName_L19v2
      100 a1 (0 : Int32) I
  else
    fc_Reader_readName_J16 I a1
set_option maxRecDepth 20000 in
theorem lt_fc_Reader_readName_L19 {res : (Int32 × zI)} : ∀ (nf : Nat) (v1 : Int32) (v3 : Int32) (I : zI), fc_Reader_readName_L19 nf v1 v3 I = some res → zG 2 ym_44 0 0 (some (.inl res.1)) (zCs, zCr, res.2) zCs.length 19 [(0, .inr (.inr (some 180))), (1, .inl v1), (2, .inr (.inr (some 100001))), (3, .inl v3)] [] (zCs, zCr, I) 0 0 := by
  intro nf
  induction nf with
  | zero =>
    intro v1 v3 I h
    have h2 : none = some res := h
    cases h2
  | succ nf ih =>
    intro v1 v3 I h
    rw [fc_Reader_readName_L19] at h
    refine zg_iload_n dd_44_19 rfl (j := 3) rfl ?_
    refine zg_aload_n dd_44_20 rfl (j := 2) rfl ?_
    refine zg_tlen dd_44_21 (List.mem_of_getElem? (i := 1) rfl) (v := 3) (by decide) ?_
    refine zg_icmp_ge (tgt := 56) dd_44_22 (by decide) (fun q2 => ?_) (fun q2 => ?_)
    · replace h := z_t h q2
      refine zg_iconst dd_44_56 kI_0 ?_
      obtain rfl := Option.some.inj h
      exact zg_zret dd_44_57 rfl zSt_b0.1
    · replace h := z_f h q2
      refine zg_aload_n dd_44_25 rfl (j := 2) rfl ?_
      refine zg_iload_n dd_44_26 rfl (j := 3) rfl ?_
      obtain ⟨g3, h⟩ := z_gd h
      refine zg_tcald dd_44_27 (List.mem_of_getElem? (i := 1) rfl) g3 ?_
      refine zg_iload_n dd_44_28 rfl (j := 1) rfl ?_
      refine zg_icmp_ne (tgt := 50) dd_44_29 (by decide) (fun q4 => ?_) (fun q4 => ?_)
      · replace h := z_f h q4
        refine zg_iinc dd_44_50 (j := 3) rfl (v := (v3 + (1 : Int32))) (by rw [kI_1]) (Nat.le_of_ble_eq_true rfl) (lv' := [(3, .inl (v3 + (1 : Int32))), (0, .inr (.inr (some 180))), (1, .inl v1), (2, .inr (.inr (some 100001)))]) rfl ?_
        refine zg_goto (tgt := 19) dd_44_53 (by decide) ?_
        refine zg_sub [1, 2, 3, 0] rfl ?_
        exact ih _ _ _ h
      · replace h := z_t h q4
        refine zg_aload_n dd_44_32 rfl (j := 0) rfl ?_
        refine zg_dup dd_44_33 rfl ?_
        refine zg_getI (x := (I 180 3)) dd_44_34 zl_Reader_22 zCs_180 rfl rfl ?_
        refine zg_iconst dd_44_37 kI_1 ?_
        refine zg_iadd dd_44_38 ?_
        refine zg_putI dd_44_39 zp_Reader_22 zCs_180 rfl (zSt_int _) ?_
        refine zg_aload_n dd_44_42 rfl (j := 0) rfl ?_
        refine zg_iconst dd_44_43 kI_1 ?_
        refine zg_iload_n dd_44_44 rfl (j := 3) rfl ?_
        obtain ⟨r5, e6, h⟩ := z_bd h
        refine zg_invV_v (av := [.inl (1 : Int32), .inl v3]) (st := []) (n := 2) dd_44_45 ca_42 zw_602 zw_604 zv_14 zCs_180 zcl_3 rfl (mt_fc_Reader_write e6) rfl ⟨by decide +kernel, by decide⟩ (Nat.le_of_ble_eq_true rfl) ?_
        refine zg_iconst dd_44_48 kI_1 ?_
        obtain rfl := Option.some.inj h
        exact zg_zret dd_44_49 rfl zSt_b1.1
set_option maxRecDepth 20000 in
theorem jt_fc_Reader_readName_J16 {res : (Int32 × zI)} {I : zI} {v1 : Int32} (h : fc_Reader_readName_J16 I v1 = some res) : zG 2 ym_44 0 0 (some (.inl res.1)) (zCs, zCr, res.2) zCs.length 16 [(0, .inr (.inr (some 180))), (1, .inl v1)] [.inr (.inr (some 100001))] (zCs, zCr, I) 0 0 := by
  rw [fc_Reader_readName_J16] at h
  refine zg_astore_n dd_44_16 rfl (Nat.le_of_ble_eq_true rfl) (lv' := [(2, .inr (.inr (some 100001))), (0, .inr (.inr (some 180))), (1, .inl v1)]) rfl ?_
  refine zg_iconst dd_44_17 kI_0 ?_
  refine zg_istore_n dd_44_18 rfl (Nat.le_of_ble_eq_true rfl) (lv' := [(3, .inl (0 : Int32)), (2, .inr (.inr (some 100001))), (0, .inr (.inr (some 180))), (1, .inl v1)]) rfl ?_
  refine zg_sub [2, 3, 1, 0] rfl ?_
  refine lt_fc_Reader_readName_L19  _ _ _ _ h
set_option maxRecDepth 20000 in
theorem lt_fc_Reader_readName_L19v2 {res : (Int32 × zI)} : ∀ (nf : Nat) (v1 : Int32) (v3 : Int32) (I : zI), fc_Reader_readName_L19v2 nf v1 v3 I = some res → zG 2 ym_44 0 0 (some (.inl res.1)) (zCs, zCr, res.2) zCs.length 19 [(0, .inr (.inr (some 180))), (1, .inl v1), (2, .inr (.inr (some 100000))), (3, .inl v3)] [] (zCs, zCr, I) 0 0 := by
  intro nf
  induction nf with
  | zero =>
    intro v1 v3 I h
    have h2 : none = some res := h
    cases h2
  | succ nf ih =>
    intro v1 v3 I h
    rw [fc_Reader_readName_L19v2] at h
    refine zg_iload_n dd_44_19 rfl (j := 3) rfl ?_
    refine zg_aload_n dd_44_20 rfl (j := 2) rfl ?_
    refine zg_tlen dd_44_21 (List.mem_of_getElem? (i := 0) rfl) (v := 4) (by decide) ?_
    refine zg_icmp_ge (tgt := 56) dd_44_22 (by decide) (fun q7 => ?_) (fun q7 => ?_)
    · replace h := z_t h q7
      refine zg_iconst dd_44_56 kI_0 ?_
      obtain rfl := Option.some.inj h
      exact zg_zret dd_44_57 rfl zSt_b0.1
    · replace h := z_f h q7
      refine zg_aload_n dd_44_25 rfl (j := 2) rfl ?_
      refine zg_iload_n dd_44_26 rfl (j := 3) rfl ?_
      obtain ⟨g8, h⟩ := z_gd h
      refine zg_tcald dd_44_27 (List.mem_of_getElem? (i := 0) rfl) g8 ?_
      refine zg_iload_n dd_44_28 rfl (j := 1) rfl ?_
      refine zg_icmp_ne (tgt := 50) dd_44_29 (by decide) (fun q9 => ?_) (fun q9 => ?_)
      · replace h := z_f h q9
        refine zg_iinc dd_44_50 (j := 3) rfl (v := (v3 + (1 : Int32))) (by rw [kI_1]) (Nat.le_of_ble_eq_true rfl) (lv' := [(3, .inl (v3 + (1 : Int32))), (0, .inr (.inr (some 180))), (1, .inl v1), (2, .inr (.inr (some 100000)))]) rfl ?_
        refine zg_goto (tgt := 19) dd_44_53 (by decide) ?_
        refine zg_sub [1, 2, 3, 0] rfl ?_
        exact ih _ _ _ h
      · replace h := z_t h q9
        refine zg_aload_n dd_44_32 rfl (j := 0) rfl ?_
        refine zg_dup dd_44_33 rfl ?_
        refine zg_getI (x := (I 180 3)) dd_44_34 zl_Reader_22 zCs_180 rfl rfl ?_
        refine zg_iconst dd_44_37 kI_1 ?_
        refine zg_iadd dd_44_38 ?_
        refine zg_putI dd_44_39 zp_Reader_22 zCs_180 rfl (zSt_int _) ?_
        refine zg_aload_n dd_44_42 rfl (j := 0) rfl ?_
        refine zg_iconst dd_44_43 kI_1 ?_
        refine zg_iload_n dd_44_44 rfl (j := 3) rfl ?_
        obtain ⟨r10, e11, h⟩ := z_bd h
        refine zg_invV_v (av := [.inl (1 : Int32), .inl v3]) (st := []) (n := 2) dd_44_45 ca_42 zw_602 zw_604 zv_14 zCs_180 zcl_3 rfl (mt_fc_Reader_write e11) rfl ⟨by decide +kernel, by decide⟩ (Nat.le_of_ble_eq_true rfl) ?_
        refine zg_iconst dd_44_48 kI_1 ?_
        obtain rfl := Option.some.inj h
        exact zg_zret dd_44_49 rfl zSt_b1.1
set_option maxRecDepth 20000 in
theorem mt_fc_Reader_readName {I : zI} {a1 : Int32} {res : (Int32 × zI)} (h : fc_Reader_readName I a1 = some res) : zM 2 ym_44 [.inr (.inr (some 180)), .inl a1] (zCs, zCr, I) (some (.inl res.1)) (zCs, zCr, res.2) 0 0 := by
  refine zM_of (by decide) (Nat.le_of_ble_eq_true rfl) (lv := [(0, .inr (.inr (some 180))), (1, .inl a1)]) rfl ?_
  rw [fc_Reader_readName] at h
  refine zg_aload_n dd_44_0 rfl (j := 0) rfl ?_
  refine zg_getI (x := (I 180 6)) dd_44_1 zl_Reader_31 zCs_180 rfl rfl ?_
  refine zg_if_ne (tgt := 13) dd_44_4 (by decide) (fun q1 => ?_) (fun q1 => ?_)
  · replace h := z_f h q1
    refine zg_gst dd_44_13 (List.mem_of_getElem? (i := 1) rfl) zw_612 ?_
    refine zg_sub [0, 1] rfl ?_
    exact jt_fc_Reader_readName_J16 h
  · replace h := z_t h q1
    refine zg_gst dd_44_7 (List.mem_of_getElem? (i := 0) rfl) zw_610 ?_
    refine zg_goto (tgt := 16) dd_44_10 (by decide) ?_
    refine zg_astore_n dd_44_16 rfl (Nat.le_of_ble_eq_true rfl) (lv' := [(2, .inr (.inr (some 100000))), (0, .inr (.inr (some 180))), (1, .inl a1)]) rfl ?_
    refine zg_iconst dd_44_17 kI_0 ?_
    refine zg_istore_n dd_44_18 rfl (Nat.le_of_ble_eq_true rfl) (lv' := [(3, .inl (0 : Int32)), (2, .inr (.inr (some 100000))), (0, .inr (.inr (some 180))), (1, .inl a1)]) rfl ?_
    refine zg_sub [2, 3, 1, 0] rfl ?_
    refine lt_fc_Reader_readName_L19v2  _ _ _ _ h
/-! TurnedLand$Reader.readNumber[180] -/
def fc_Reader_readNumber_L4 : Nat → Int32 → Int32 → zI → Option (Int32 × zI)
  | 0, _, _, _ => none
  | nf + 1, v1, v2, I =>
    if (4 : Int32) ≤ v2 then
      (fc_Reader_write I (0 : Int32) v1).bind fun r2 =>
      some ((1 : Int32), r2)
    else
      (fc_Reader_next I).bind fun r4 =>
      (fc_Reader_isDigit I r4).bind fun r6 =>
      if r6 = 0 then
        (fc_Reader_write I (0 : Int32) v1).bind fun r9 =>
        some ((1 : Int32), r9)
      else
        (fc_Reader_next I).bind fun r11 =>
        fc_Reader_readNumber_L4 nf (((v1 * (10 : Int32)) + r11) - (48 : Int32)) (v2 + (1 : Int32)) (zup I 180 3 ((I 180 3) + (1 : Int32)))
def fc_Reader_readNumber (I : zI) : Option (Int32 × zI) :=
  fc_Reader_readNumber_L4
    100 (0 : Int32) (0 : Int32) I
set_option maxRecDepth 20000 in
theorem lt_fc_Reader_readNumber_L4 {res : (Int32 × zI)} : ∀ (nf : Nat) (v1 : Int32) (v2 : Int32) (I : zI), fc_Reader_readNumber_L4 nf v1 v2 I = some res → zG 3 ym_45 0 0 (some (.inl res.1)) (zCs, zCr, res.2) zCs.length 4 [(0, .inr (.inr (some 180))), (1, .inl v1), (2, .inl v2)] [] (zCs, zCr, I) 0 0 := by
  intro nf
  induction nf with
  | zero =>
    intro v1 v2 I h
    have h2 : none = some res := h
    cases h2
  | succ nf ih =>
    intro v1 v2 I h
    rw [fc_Reader_readNumber_L4] at h
    refine zg_iload_n dd_45_4 rfl (j := 2) rfl ?_
    refine zg_iconst dd_45_5 kI_4 ?_
    refine zg_icmp_ge (tgt := 48) dd_45_6 (by decide) (fun q1 => ?_) (fun q1 => ?_)
    · replace h := z_t h q1
      refine zg_aload_n dd_45_48 rfl (j := 0) rfl ?_
      refine zg_iconst dd_45_49 kI_0 ?_
      refine zg_iload_n dd_45_50 rfl (j := 1) rfl ?_
      obtain ⟨r2, e3, h⟩ := z_bd h
      refine zg_invV_v (av := [.inl (0 : Int32), .inl v1]) (st := []) (n := 2) dd_45_51 ca_42 zw_602 zw_604 zv_14 zCs_180 zcl_3 rfl (mt_fc_Reader_write e3) rfl ⟨by decide +kernel, by decide⟩ (Nat.le_of_ble_eq_true rfl) ?_
      refine zg_iconst dd_45_54 kI_1 ?_
      obtain rfl := Option.some.inj h
      exact zg_zret dd_45_55 rfl zSt_b1.1
    · replace h := z_f h q1
      refine zg_aload_n dd_45_9 rfl (j := 0) rfl ?_
      obtain ⟨r4, e5, h⟩ := z_bd h
      refine zg_invV_i (av := []) (st := []) (n := 0) dd_45_10 ca_41 zw_590 zw_592 zv_12 zCs_180 zcl_3 rfl (mt_fc_Reader_next e5) rfl ⟨by decide +kernel, by decide⟩ (Nat.le_of_ble_eq_true rfl) ?_
      obtain ⟨r6, e7, h⟩ := z_bd h
      refine zg_invS_i (av := [.inl r4]) (st := []) (n := 1) dd_45_13 ca_43 zw_594 zw_595 (mt_fc_Reader_isDigit e7) rfl ⟨by decide +kernel, by decide⟩ (Nat.le_of_ble_eq_true rfl) ?_
      refine zg_if_eq (tgt := 48) dd_45_16 (by decide) (fun q8 => ?_) (fun q8 => ?_)
      · replace h := z_t h q8
        refine zg_aload_n dd_45_48 rfl (j := 0) rfl ?_
        refine zg_iconst dd_45_49 kI_0 ?_
        refine zg_iload_n dd_45_50 rfl (j := 1) rfl ?_
        obtain ⟨r9, e10, h⟩ := z_bd h
        refine zg_invV_v (av := [.inl (0 : Int32), .inl v1]) (st := []) (n := 2) dd_45_51 ca_42 zw_602 zw_604 zv_14 zCs_180 zcl_3 rfl (mt_fc_Reader_write e10) rfl ⟨by decide +kernel, by decide⟩ (Nat.le_of_ble_eq_true rfl) ?_
        refine zg_iconst dd_45_54 kI_1 ?_
        obtain rfl := Option.some.inj h
        exact zg_zret dd_45_55 rfl zSt_b1.1
      · replace h := z_f h q8
        refine zg_iload_n dd_45_19 rfl (j := 1) rfl ?_
        refine zg_bipush dd_45_20 kB_10 ?_
        refine zg_imul dd_45_22 ?_
        refine zg_aload_n dd_45_23 rfl (j := 0) rfl ?_
        obtain ⟨r11, e12, h⟩ := z_bd h
        refine zg_invV_i (av := []) (st := [.inl (v1 * (10 : Int32))]) (n := 0) dd_45_24 ca_41 zw_590 zw_592 zv_12 zCs_180 zcl_3 rfl (mt_fc_Reader_next e12) rfl ⟨by decide +kernel, by decide⟩ (Nat.le_of_ble_eq_true rfl) ?_
        refine zg_iadd dd_45_27 ?_
        refine zg_bipush dd_45_28 kB_48 ?_
        refine zg_isub dd_45_30 ?_
        refine zg_istore_n dd_45_31 rfl (Nat.le_of_ble_eq_true rfl) (lv' := [(1, .inl (((v1 * (10 : Int32)) + r11) - (48 : Int32))), (0, .inr (.inr (some 180))), (2, .inl v2)]) rfl ?_
        refine zg_aload_n dd_45_32 rfl (j := 1) rfl ?_
        refine zg_dup dd_45_33 rfl ?_
        refine zg_getI (x := (I 180 3)) dd_45_34 zl_Reader_22 zCs_180 rfl rfl ?_
        refine zg_iconst dd_45_37 kI_1 ?_
        refine zg_iadd dd_45_38 ?_
        refine zg_putI dd_45_39 zp_Reader_22 zCs_180 rfl (zSt_int _) ?_
        refine zg_iinc dd_45_42 (j := 2) rfl (v := (v2 + (1 : Int32))) (by rw [kI_1]) (Nat.le_of_ble_eq_true rfl) (lv' := [(2, .inl (v2 + (1 : Int32))), (1, .inl (((v1 * (10 : Int32)) + r11) - (48 : Int32))), (0, .inr (.inr (some 180)))]) rfl ?_
        refine zg_goto (tgt := 4) dd_45_45 (by decide) ?_
        refine zg_sub [2, 1, 0] rfl ?_
        exact ih _ _ _ h
set_option maxRecDepth 20000 in
theorem mt_fc_Reader_readNumber {I : zI} {res : (Int32 × zI)} (h : fc_Reader_readNumber I = some res) : zM 3 ym_45 [.inr (.inr (some 180))] (zCs, zCr, I) (some (.inl res.1)) (zCs, zCr, res.2) 0 0 := by
  refine zM_of (by decide) (Nat.le_of_ble_eq_true rfl) (lv := [(0, .inr (.inr (some 180)))]) rfl ?_
  rw [fc_Reader_readNumber] at h
  refine zg_iconst dd_45_0 kI_0 ?_
  refine zg_istore_n dd_45_1 rfl (Nat.le_of_ble_eq_true rfl) (lv' := [(1, .inl (0 : Int32)), (0, .inr (.inr (some 180)))]) rfl ?_
  refine zg_iconst dd_45_2 kI_0 ?_
  refine zg_istore_n dd_45_3 rfl (Nat.le_of_ble_eq_true rfl) (lv' := [(2, .inl (0 : Int32)), (1, .inl (0 : Int32)), (0, .inr (.inr (some 180)))]) rfl ?_
  refine zg_sub [2, 1, 0] rfl ?_
  refine lt_fc_Reader_readNumber_L4  _ _ _ _ h
/-! TurnedLand$Reader.readSingle(180, None) -/
def fc_Reader_readSingle_J35 (rc : zI → Int32 → Option (Int32 × zI)) (I : zI) (v1 : Int32) (v2 : Int32) : Option (Int32 × zI) :=
  if v1 < (5 : Int32) then
    if v2 = (33 : Int32) then
      (rc (zup I 180 3 ((I 180 3) + (1 : Int32))) (v1 + (1 : Int32))).bind fun r15 =>
      if r15.1 = 0 then
        some ((0 : Int32), r15.2)
      else
        (fc_Reader_write r15.2 (33 : Int32) (0 : Int32)).bind fun r18 =>
        some ((1 : Int32), r18)
    else
      (fc_Reader_readOr rc (zup I 180 3 ((I 180 3) + (1 : Int32))) (v1 + (1 : Int32))).bind fun r9 =>
      if r9.1 = 0 then
        some ((0 : Int32), r9.2)
      else
        (fc_Reader_next r9.2).bind fun r12 =>
        if r12 = (41 : Int32) then
          some ((1 : Int32), (zup r9.2 180 3 ((r9.2 180 3) + (1 : Int32))))
        else
          some ((0 : Int32), r9.2)
  else
    some ((0 : Int32), I)
def fc_Reader_readSingleB (rc : zI → Int32 → Option (Int32 × zI)) (I : zI) (a1 : Int32) : Option (Int32 × zI) :=
  (fc_Reader_next I).bind fun r1 =>
  (fc_Reader_isDigit I r1).bind fun r3 =>
  if r3 = 0 then
    if r1 = (33 : Int32) then
      fc_Reader_readSingle_J35 rc I a1 r1
    else
      if r1 = (40 : Int32) then
        fc_Reader_readSingle_J35 rc I a1 r1
      else
        (fc_Reader_readName I r1).bind fun r21 =>
        z_guard (zbb r21.1) <|
        some (r21.1, r21.2)
  else
    (fc_Reader_readNumber I).bind fun r24 =>
    z_guard (zbb r24.1) <|
    some (r24.1, r24.2)
def fc_Reader_readSingle : Nat → zI → Int32 → Option (Int32 × zI)
  | 0 => fun _ _ => none
  | nf + 1 => fc_Reader_readSingleB (fc_Reader_readSingle nf)
set_option maxRecDepth 20000 in
theorem jt_fc_Reader_readSingle_J35 {rc : zI → Int32 → Option (Int32 × zI)} {dd : Nat} (hrc : ∀ (I : zI) (x0 : Int32) (res : (Int32 × zI)), rc I x0 = some res → zM dd ym_40 [.inr (.inr (some 180)), .inl x0] (zCs, zCr, I) (some (.inl res.1)) (zCs, zCr, res.2) 0 0) {res : (Int32 × zI)} {I : zI} {v1 : Int32} {v2 : Int32} (h : fc_Reader_readSingle_J35 rc I v1 v2 = some res) : zG (dd + 7) ym_40 0 0 (some (.inl res.1)) (zCs, zCr, res.2) zCs.length 35 [(0, .inr (.inr (some 180))), (1, .inl v1), (2, .inl v2)] [] (zCs, zCr, I) 0 0 := by
  rw [fc_Reader_readSingle_J35] at h
  refine zg_iload_n dd_40_35 rfl (j := 1) rfl ?_
  refine zg_iconst dd_40_36 kI_5 ?_
  refine zg_icmp_lt (tgt := 42) dd_40_37 (by decide) (fun q7 => ?_) (fun q7 => ?_)
  · replace h := z_t h q7
    refine zg_aload_n dd_40_42 rfl (j := 0) rfl ?_
    refine zg_dup dd_40_43 rfl ?_
    refine zg_getI (x := (I 180 3)) dd_40_44 zl_Reader_22 zCs_180 rfl rfl ?_
    refine zg_iconst dd_40_47 kI_1 ?_
    refine zg_iadd dd_40_48 ?_
    refine zg_putI dd_40_49 zp_Reader_22 zCs_180 rfl (zSt_int _) ?_
    refine zg_iload_n dd_40_52 rfl (j := 2) rfl ?_
    refine zg_bipush dd_40_53 kB_33 ?_
    refine zg_icmp_ne (tgt := 79) dd_40_55 (by decide) (fun q8 => ?_) (fun q8 => ?_)
    · replace h := z_f h q8
      refine zg_aload_n dd_40_79 rfl (j := 0) rfl ?_
      refine zg_iload_n dd_40_80 rfl (j := 1) rfl ?_
      refine zg_iconst dd_40_81 kI_1 ?_
      refine zg_iadd dd_40_82 ?_
      obtain ⟨r9, e10, h⟩ := z_bd h
      refine zg_invV_i (av := [.inl (v1 + (1 : Int32))]) (st := []) (n := 1) dd_40_83 ca_35 zw_566 zw_568 zv_6 zCs_180 zcl_3 rfl (mt_fc_Reader_readOr hrc e10) rfl ⟨by omega, by decide⟩ (Nat.le_of_ble_eq_true rfl) ?_
      refine zg_if_eq (tgt := 98) dd_40_86 (by decide) (fun q11 => ?_) (fun q11 => ?_)
      · replace h := z_t h q11
        refine zg_iconst dd_40_98 kI_0 ?_
        obtain rfl := Option.some.inj h
        exact zg_zret dd_40_99 rfl zSt_b0.1
      · replace h := z_f h q11
        refine zg_aload_n dd_40_89 rfl (j := 0) rfl ?_
        obtain ⟨r12, e13, h⟩ := z_bd h
        refine zg_invV_i (av := []) (st := []) (n := 0) dd_40_90 ca_41 zw_590 zw_592 zv_12 zCs_180 zcl_3 rfl (mt_fc_Reader_next e13) rfl ⟨by omega, by decide⟩ (Nat.le_of_ble_eq_true rfl) ?_
        refine zg_bipush dd_40_93 kB_41 ?_
        refine zg_icmp_eq (tgt := 100) dd_40_95 (by decide) (fun q14 => ?_) (fun q14 => ?_)
        · replace h := z_t h q14
          refine zg_aload_n dd_40_100 rfl (j := 0) rfl ?_
          refine zg_dup dd_40_101 rfl ?_
          refine zg_getI (x := (r9.2 180 3)) dd_40_102 zl_Reader_22 zCs_180 rfl rfl ?_
          refine zg_iconst dd_40_105 kI_1 ?_
          refine zg_iadd dd_40_106 ?_
          refine zg_putI dd_40_107 zp_Reader_22 zCs_180 rfl (zSt_int _) ?_
          refine zg_iconst dd_40_110 kI_1 ?_
          obtain rfl := Option.some.inj h
          exact zg_zret dd_40_111 rfl zSt_b1.1
        · replace h := z_f h q14
          refine zg_iconst dd_40_98 kI_0 ?_
          obtain rfl := Option.some.inj h
          exact zg_zret dd_40_99 rfl zSt_b0.1
    · replace h := z_t h q8
      refine zg_aload_n dd_40_58 rfl (j := 0) rfl ?_
      refine zg_iload_n dd_40_59 rfl (j := 1) rfl ?_
      refine zg_iconst dd_40_60 kI_1 ?_
      refine zg_iadd dd_40_61 ?_
      obtain ⟨r15, e16, h⟩ := z_bd h
      refine zg_invV_i (av := [.inl (v1 + (1 : Int32))]) (st := []) (n := 1) dd_40_62 ca_40 zw_586 zw_588 zv_11 zCs_180 zcl_3 rfl (hrc _ _ _ e16) rfl ⟨by omega, by decide⟩ (Nat.le_of_ble_eq_true rfl) ?_
      refine zg_if_ne (tgt := 70) dd_40_65 (by decide) (fun q17 => ?_) (fun q17 => ?_)
      · replace h := z_f h q17
        refine zg_aload_n dd_40_70 rfl (j := 0) rfl ?_
        refine zg_bipush dd_40_71 kB_33 ?_
        refine zg_iconst dd_40_73 kI_0 ?_
        obtain ⟨r18, e19, h⟩ := z_bd h
        refine zg_invV_v (av := [.inl (33 : Int32), .inl (0 : Int32)]) (st := []) (n := 2) dd_40_74 ca_42 zw_602 zw_604 zv_14 zCs_180 zcl_3 rfl (mt_fc_Reader_write e19) rfl ⟨by omega, by decide⟩ (Nat.le_of_ble_eq_true rfl) ?_
        refine zg_iconst dd_40_77 kI_1 ?_
        obtain rfl := Option.some.inj h
        exact zg_zret dd_40_78 rfl zSt_b1.1
      · replace h := z_t h q17
        refine zg_iconst dd_40_68 kI_0 ?_
        obtain rfl := Option.some.inj h
        exact zg_zret dd_40_69 rfl zSt_b0.1
  · replace h := z_f h q7
    refine zg_iconst dd_40_40 kI_0 ?_
    obtain rfl := Option.some.inj h
    exact zg_zret dd_40_41 rfl zSt_b0.1
set_option maxRecDepth 20000 in
theorem mt_fc_Reader_readSingleB {rc : zI → Int32 → Option (Int32 × zI)} {dd : Nat} (hrc : ∀ (I : zI) (x0 : Int32) (res : (Int32 × zI)), rc I x0 = some res → zM dd ym_40 [.inr (.inr (some 180)), .inl x0] (zCs, zCr, I) (some (.inl res.1)) (zCs, zCr, res.2) 0 0) {I : zI} {a1 : Int32} {res : (Int32 × zI)} (h : fc_Reader_readSingleB rc I a1 = some res) : zM (dd + 7) ym_40 [.inr (.inr (some 180)), .inl a1] (zCs, zCr, I) (some (.inl res.1)) (zCs, zCr, res.2) 0 0 := by
  refine zM_of (by decide) (Nat.le_of_ble_eq_true rfl) (lv := [(0, .inr (.inr (some 180))), (1, .inl a1)]) rfl ?_
  rw [fc_Reader_readSingleB] at h
  refine zg_aload_n dd_40_0 rfl (j := 0) rfl ?_
  obtain ⟨r1, e2, h⟩ := z_bd h
  refine zg_invV_i (av := []) (st := []) (n := 0) dd_40_1 ca_41 zw_590 zw_592 zv_12 zCs_180 zcl_3 rfl (mt_fc_Reader_next e2) rfl ⟨by omega, by decide⟩ (Nat.le_of_ble_eq_true rfl) ?_
  refine zg_istore_n dd_40_4 rfl (Nat.le_of_ble_eq_true rfl) (lv' := [(2, .inl r1), (0, .inr (.inr (some 180))), (1, .inl a1)]) rfl ?_
  refine zg_iload_n dd_40_5 rfl (j := 0) rfl ?_
  obtain ⟨r3, e4, h⟩ := z_bd h
  refine zg_invS_i (av := [.inl r1]) (st := []) (n := 1) dd_40_6 ca_43 zw_594 zw_595 (mt_fc_Reader_isDigit e4) rfl ⟨by omega, by decide⟩ (Nat.le_of_ble_eq_true rfl) ?_
  refine zg_if_eq (tgt := 17) dd_40_9 (by decide) (fun q5 => ?_) (fun q5 => ?_)
  · replace h := z_t h q5
    refine zg_iload_n dd_40_17 rfl (j := 0) rfl ?_
    refine zg_bipush dd_40_18 kB_33 ?_
    refine zg_icmp_eq (tgt := 35) dd_40_20 (by decide) (fun q6 => ?_) (fun q6 => ?_)
    · replace h := z_t h q6
      refine zg_sub [1, 2, 0] rfl ?_
      exact jt_fc_Reader_readSingle_J35 hrc h
    · replace h := z_f h q6
      refine zg_iload_n dd_40_23 rfl (j := 0) rfl ?_
      refine zg_bipush dd_40_24 kB_40 ?_
      refine zg_icmp_eq (tgt := 35) dd_40_26 (by decide) (fun q20 => ?_) (fun q20 => ?_)
      · replace h := z_t h q20
        refine zg_sub [1, 2, 0] rfl ?_
        exact jt_fc_Reader_readSingle_J35 hrc h
      · replace h := z_f h q20
        refine zg_aload_n dd_40_29 rfl (j := 1) rfl ?_
        refine zg_iload_n dd_40_30 rfl (j := 0) rfl ?_
        obtain ⟨r21, e22, h⟩ := z_bd h
        refine zg_invV_i (av := [.inl r1]) (st := []) (n := 1) dd_40_31 ca_44 zw_606 zw_608 zv_15 zCs_180 zcl_3 rfl (mt_fc_Reader_readName e22) rfl ⟨by omega, by decide⟩ (Nat.le_of_ble_eq_true rfl) ?_
        obtain ⟨g23, h⟩ := z_gd h
        obtain rfl := Option.some.inj h
        exact zg_zret dd_40_34 rfl (zSt_bb g23).1
  · replace h := z_f h q5
    refine zg_aload_n dd_40_12 rfl (j := 1) rfl ?_
    obtain ⟨r24, e25, h⟩ := z_bd h
    refine zg_invV_i (av := []) (st := []) (n := 0) dd_40_13 ca_45 zw_598 zw_600 zv_13 zCs_180 zcl_3 rfl (mt_fc_Reader_readNumber e25) rfl ⟨by omega, by decide⟩ (Nat.le_of_ble_eq_true rfl) ?_
    obtain ⟨g26, h⟩ := z_gd h
    obtain rfl := Option.some.inj h
    exact zg_zret dd_40_16 rfl (zSt_bb g26).1
set_option maxRecDepth 20000 in
theorem mt_fc_Reader_readSingle : ∀ (nf : Nat) (I : zI) (a1 : Int32) (res : (Int32 × zI)), fc_Reader_readSingle nf I a1 = some res → zM (zdp 7 nf) ym_40 [.inr (.inr (some 180)), .inl a1] (zCs, zCr, I) (some (.inl res.1)) (zCs, zCr, res.2) 0 0
  | 0, I, a1, res, h => by
    have h2 : none = some res := h
    cases h2
  | nf + 1, I, a1, res, h => mt_fc_Reader_readSingleB (mt_fc_Reader_readSingle nf) h
/-! TurnedLand$Reader.read[180, 45, None, None] -/
def fc_Reader_read (I : zI) (a2 : Int32) (a3 : Int32) : Option (Int32 × zI) :=
  (fc_Reader_readOr (fc_Reader_readSingle 40) (zup (zup (zup (zup (zcopy I 45 183 (0 : Int32) (0 : Int32) (60 : Int32)) 180 5 a2) 180 6 a3) 180 2 (0 : Int32)) 180 3 (0 : Int32)) (0 : Int32)).bind fun r1 =>
  if r1.1 = 0 then
    some ((0 : Int32), r1.2)
  else
    if (r1.2 180 3) = (r1.2 180 5) then
      some ((1 : Int32), r1.2)
    else
      some ((0 : Int32), r1.2)
set_option maxRecDepth 20000 in
theorem mt_fc_Reader_read {I : zI} {a2 : Int32} {a3 : Int32} {res : (Int32 × zI)} (h : fc_Reader_read I a2 a3 = some res) : zM 287 ym_34 [.inr (.inr (some 180)), .inr (.inr (some 45)), .inl a2, .inl a3] (zCs, zCr, I) (some (.inl res.1)) (zCs, zCr, res.2) 0 0 := by
  refine zM_of (by decide) (Nat.le_of_ble_eq_true rfl) (lv := [(0, .inr (.inr (some 180))), (1, .inr (.inr (some 45))), (2, .inl a2), (3, .inl a3)]) rfl ?_
  rw [fc_Reader_read] at h
  refine zg_aload_n dd_34_0 rfl (j := 1) rfl ?_
  refine zg_iconst dd_34_1 kI_0 ?_
  refine zg_aload_n dd_34_2 rfl (j := 0) rfl ?_
  refine zg_getR dd_34_3 zl_Reader_25 zCs_180 rfl zCr_180_4 ?_
  refine zg_iconst dd_34_6 kI_0 ?_
  refine zg_bipush dd_34_7 kB_60 ?_
  refine zg_acopy dd_34_9 zw_563 zacw zCs_45 zCs_183 (by decide) (by first | decide | omega) (Nat.le_of_ble_eq_true rfl) ?_
  refine zg_aload_n dd_34_12 rfl (j := 0) rfl ?_
  refine zg_iload_n dd_34_13 rfl (j := 2) rfl ?_
  refine zg_putI dd_34_14 zp_Reader_28 zCs_180 rfl (zSt_int _) ?_
  refine zg_aload_n dd_34_17 rfl (j := 0) rfl ?_
  refine zg_iload_n dd_34_18 rfl (j := 3) rfl ?_
  refine zg_putI dd_34_19 zp_Reader_31 zCs_180 rfl (zSt_int _) ?_
  refine zg_aload_n dd_34_22 rfl (j := 0) rfl ?_
  refine zg_iconst dd_34_23 kI_0 ?_
  refine zg_putI dd_34_24 zp_Reader_18 zCs_180 rfl (zSt_int _) ?_
  refine zg_aload_n dd_34_27 rfl (j := 0) rfl ?_
  refine zg_iconst dd_34_28 kI_0 ?_
  refine zg_putI dd_34_29 zp_Reader_22 zCs_180 rfl (zSt_int _) ?_
  refine zg_aload_n dd_34_32 rfl (j := 0) rfl ?_
  refine zg_iconst dd_34_33 kI_0 ?_
  obtain ⟨r1, e2, h⟩ := z_bd h
  refine zg_invV_i (av := [.inl (0 : Int32)]) (st := []) (n := 1) dd_34_34 ca_35 zw_566 zw_568 zv_6 zCs_180 zcl_3 rfl (mt_fc_Reader_readOr (mt_fc_Reader_readSingle 40) e2) rfl ⟨by decide +kernel, by decide⟩ (Nat.le_of_ble_eq_true rfl) ?_
  refine zg_if_eq (tgt := 55) dd_34_37 (by decide) (fun q3 => ?_) (fun q3 => ?_)
  · replace h := z_t h q3
    refine zg_iconst dd_34_55 kI_0 ?_
    obtain rfl := Option.some.inj h
    exact zg_zret dd_34_56 rfl zSt_b0.1
  · replace h := z_f h q3
    refine zg_aload_n dd_34_40 rfl (j := 0) rfl ?_
    refine zg_getI (x := (r1.2 180 3)) dd_34_41 zl_Reader_22 zCs_180 rfl rfl ?_
    refine zg_aload_n dd_34_44 rfl (j := 0) rfl ?_
    refine zg_getI (x := (r1.2 180 5)) dd_34_45 zl_Reader_28 zCs_180 rfl rfl ?_
    refine zg_icmp_ne (tgt := 55) dd_34_48 (by decide) (fun q4 => ?_) (fun q4 => ?_)
    · replace h := z_f h q4
      refine zg_iconst dd_34_55 kI_0 ?_
      obtain rfl := Option.some.inj h
      exact zg_zret dd_34_56 rfl zSt_b0.1
    · replace h := z_t h q4
      refine zg_iconst dd_34_51 kI_1 ?_
      refine zg_goto (tgt := 56) dd_34_52 (by decide) ?_
      obtain rfl := Option.some.inj h
      exact zg_zret dd_34_56 rfl zSt_b1.1
/-! TurnedLand.textOf[0, None] -/
def fc_T_textOf (I : zI) (a1 : Int32) : Option Nat :=
  if a1 = 0 then
    some 35
  else
    some 40
set_option maxRecDepth 20000 in
theorem mt_fc_T_textOf {I : zI} {a1 : Int32} {res : Nat} (h : fc_T_textOf I a1 = some res) : zM 1 ym_46 [.inr (.inr (some 0)), .inl a1] (zCs, zCr, I) (some (.inr (.inr (some res)))) (zCs, zCr, I) 0 0 := by
  refine zM_of (by decide) (Nat.le_of_ble_eq_true rfl) (lv := [(0, .inr (.inr (some 0))), (1, .inl a1)]) rfl ?_
  rw [fc_T_textOf] at h
  refine zg_iload_n dd_46_0 rfl (j := 1) rfl ?_
  refine zg_if_ne (tgt := 14) dd_46_1 (by decide) (fun q1 => ?_) (fun q1 => ?_)
  · replace h := z_f h q1
    refine zg_aload_n dd_46_14 rfl (j := 0) rfl ?_
    refine zg_getR dd_46_15 zl_T_12 zCs_0 rfl zCr_0_0 ?_
    refine zg_getR dd_46_18 zl_T_394 zCs_1 rfl zCr_1_5 ?_
    obtain rfl := Option.some.inj h
    exact zg_aret dd_46_21 rfl
  · replace h := z_t h q1
    refine zg_aload_n dd_46_4 rfl (j := 0) rfl ?_
    refine zg_getR dd_46_5 zl_T_12 zCs_0 rfl zCr_0_0 ?_
    refine zg_getR dd_46_8 zl_T_390 zCs_1 rfl zCr_1_4 ?_
    refine zg_goto (tgt := 21) dd_46_11 (by decide) ?_
    obtain rfl := Option.some.inj h
    exact zg_aret dd_46_21 rfl
/-! TurnedLand$Text.takeFrom[40, 180] -/
def fc_Text_takeFrom (I : zI) : Option zI :=
  some (zcopy (zcopy (zup (zup I 40 0 (1 : Int32)) 40 1 (I 180 2)) 181 41 (0 : Int32) (0 : Int32) (60 : Int32)) 182 42 (0 : Int32) (0 : Int32) (60 : Int32))
set_option maxRecDepth 20000 in
theorem mt_fc_Text_takeFrom {I : zI} {res : zI} (h : fc_Text_takeFrom I = some res) : zM 1 ym_47 [.inr (.inr (some 40)), .inr (.inr (some 180))] (zCs, zCr, I) none (zCs, zCr, res) 0 0 := by
  refine zM_of (by decide) (Nat.le_of_ble_eq_true rfl) (lv := [(0, .inr (.inr (some 40))), (1, .inr (.inr (some 180)))]) rfl ?_
  rw [fc_Text_takeFrom] at h
  refine zg_aload_n dd_47_0 rfl (j := 0) rfl ?_
  refine zg_iconst dd_47_1 kI_1 ?_
  refine zg_putI dd_47_2 zp_Text_9 zCs_40 rfl zSt_b1 ?_
  refine zg_aload_n dd_47_5 rfl (j := 0) rfl ?_
  refine zg_aload_n dd_47_6 rfl (j := 1) rfl ?_
  refine zg_getI (x := (I 180 2)) dd_47_7 zl_Text_38 zCs_180 rfl rfl ?_
  refine zg_putI dd_47_10 zp_Text_15 zCs_40 rfl (zSt_int _) ?_
  refine zg_aload_n dd_47_13 rfl (j := 1) rfl ?_
  refine zg_getR dd_47_14 zl_Text_41 zCs_180 rfl zCr_180_0 ?_
  refine zg_iconst dd_47_17 kI_0 ?_
  refine zg_aload_n dd_47_18 rfl (j := 0) rfl ?_
  refine zg_getR dd_47_19 zl_Text_19 zCs_40 rfl zCr_40_2 ?_
  refine zg_iconst dd_47_22 kI_0 ?_
  refine zg_bipush dd_47_23 kB_60 ?_
  refine zg_acopy dd_47_25 zw_622 zacw zCs_181 zCs_41 (by decide) (by first | decide | omega) (Nat.le_of_ble_eq_true rfl) ?_
  refine zg_aload_n dd_47_28 rfl (j := 1) rfl ?_
  refine zg_getR dd_47_29 zl_Text_42 zCs_180 rfl zCr_180_1 ?_
  refine zg_iconst dd_47_32 kI_0 ?_
  refine zg_aload_n dd_47_33 rfl (j := 0) rfl ?_
  refine zg_getR dd_47_34 zl_Text_23 zCs_40 rfl zCr_40_3 ?_
  refine zg_iconst dd_47_37 kI_0 ?_
  refine zg_bipush dd_47_38 kB_60 ?_
  refine zg_acopy dd_47_40 zw_622 zacw zCs_182 zCs_42 (by decide) (by first | decide | omega) (Nat.le_of_ble_eq_true rfl) ?_
  obtain rfl := Option.some.inj h
  exact zg_vret dd_47_43 rfl
/-! TurnedLand$Text.takeFrom[35, 180] -/
def fc_Text_takeFrom_2 (I : zI) : Option zI :=
  some (zcopy (zcopy (zup (zup I 35 0 (1 : Int32)) 35 1 (I 180 2)) 181 36 (0 : Int32) (0 : Int32) (60 : Int32)) 182 37 (0 : Int32) (0 : Int32) (60 : Int32))
set_option maxRecDepth 20000 in
theorem mt_fc_Text_takeFrom_2 {I : zI} {res : zI} (h : fc_Text_takeFrom_2 I = some res) : zM 1 ym_47 [.inr (.inr (some 35)), .inr (.inr (some 180))] (zCs, zCr, I) none (zCs, zCr, res) 0 0 := by
  refine zM_of (by decide) (Nat.le_of_ble_eq_true rfl) (lv := [(0, .inr (.inr (some 35))), (1, .inr (.inr (some 180)))]) rfl ?_
  rw [fc_Text_takeFrom_2] at h
  refine zg_aload_n dd_47_0 rfl (j := 0) rfl ?_
  refine zg_iconst dd_47_1 kI_1 ?_
  refine zg_putI dd_47_2 zp_Text_9 zCs_35 rfl zSt_b1 ?_
  refine zg_aload_n dd_47_5 rfl (j := 0) rfl ?_
  refine zg_aload_n dd_47_6 rfl (j := 1) rfl ?_
  refine zg_getI (x := (I 180 2)) dd_47_7 zl_Text_38 zCs_180 rfl rfl ?_
  refine zg_putI dd_47_10 zp_Text_15 zCs_35 rfl (zSt_int _) ?_
  refine zg_aload_n dd_47_13 rfl (j := 1) rfl ?_
  refine zg_getR dd_47_14 zl_Text_41 zCs_180 rfl zCr_180_0 ?_
  refine zg_iconst dd_47_17 kI_0 ?_
  refine zg_aload_n dd_47_18 rfl (j := 0) rfl ?_
  refine zg_getR dd_47_19 zl_Text_19 zCs_35 rfl zCr_35_2 ?_
  refine zg_iconst dd_47_22 kI_0 ?_
  refine zg_bipush dd_47_23 kB_60 ?_
  refine zg_acopy dd_47_25 zw_622 zacw zCs_181 zCs_36 (by decide) (by first | decide | omega) (Nat.le_of_ble_eq_true rfl) ?_
  refine zg_aload_n dd_47_28 rfl (j := 1) rfl ?_
  refine zg_getR dd_47_29 zl_Text_42 zCs_180 rfl zCr_180_1 ?_
  refine zg_iconst dd_47_32 kI_0 ?_
  refine zg_aload_n dd_47_33 rfl (j := 0) rfl ?_
  refine zg_getR dd_47_34 zl_Text_23 zCs_35 rfl zCr_35_3 ?_
  refine zg_iconst dd_47_37 kI_0 ?_
  refine zg_bipush dd_47_38 kB_60 ?_
  refine zg_acopy dd_47_40 zw_622 zacw zCs_182 zCs_37 (by decide) (by first | decide | omega) (Nat.le_of_ble_eq_true rfl) ?_
  obtain rfl := Option.some.inj h
  exact zg_vret dd_47_43 rfl
/-! TurnedLand.text(0, None) -/
def fc_T_text (I : zI) (a1 : Int32) : Option (Int32 × zI) :=
  (fc_T_within I a1 (0 : Int32) (1 : Int32)).bind fun r1 =>
  if r1 = 0 then
    (fc_T_refuse I (1 : Int32)).bind fun r15 =>
    some (r15.1, r15.2)
  else
    (fc_Reader_read I (I 1 7) a1).bind fun r4 =>
    if r4.1 = 0 then
      some (((-10 : Int32) - (r4.2 180 3)), (zup r4.2 1 7 (0 : Int32)))
    else
      (fc_T_textOf (zup r4.2 1 7 (0 : Int32)) a1).bind fun r7 =>
      if r7 = 40 then
        (fc_Text_takeFrom (zup r4.2 1 7 (0 : Int32))).bind fun r10 =>
        some ((1 : Int32), r10)
      else if r7 = 35 then
        (fc_Text_takeFrom_2 (zup r4.2 1 7 (0 : Int32))).bind fun r13 =>
        some ((1 : Int32), r13)
      else none
set_option maxRecDepth 20000 in
theorem mt_fc_T_text {I : zI} {a1 : Int32} {res : (Int32 × zI)} (h : fc_T_text I a1 = some res) : zM 288 ym_33 [.inr (.inr (some 0)), .inl a1] (zCs, zCr, I) (some (.inl res.1)) (zCs, zCr, res.2) 0 0 := by
  refine zM_of (by decide) (Nat.le_of_ble_eq_true rfl) (lv := [(0, .inr (.inr (some 0))), (1, .inl a1)]) rfl ?_
  rw [fc_T_text] at h
  refine zg_iload_n dd_33_0 rfl (j := 1) rfl ?_
  refine zg_iconst dd_33_1 kI_0 ?_
  refine zg_iconst dd_33_2 kI_1 ?_
  obtain ⟨r1, e2, h⟩ := z_bd h
  refine zg_invS_i (av := [.inl a1, .inl (0 : Int32), .inl (1 : Int32)]) (st := []) (n := 3) dd_33_3 ca_1 zw_427 zw_428 (mt_fc_T_within e2) rfl ⟨by decide +kernel, by decide⟩ (Nat.le_of_ble_eq_true rfl) ?_
  refine zg_if_ne (tgt := 15) dd_33_6 (by decide) (fun q3 => ?_) (fun q3 => ?_)
  · replace h := z_f h q3
    refine zg_aload_n dd_33_15 rfl (j := 0) rfl ?_
    refine zg_getR dd_33_16 zl_T_65 zCs_0 rfl zCr_0_11 ?_
    refine zg_aload_n dd_33_19 rfl (j := 0) rfl ?_
    refine zg_getR dd_33_20 zl_T_12 zCs_0 rfl zCr_0_0 ?_
    refine zg_getR dd_33_23 zl_T_158 zCs_1 rfl zCr_1_6 ?_
    refine zg_aload_n dd_33_26 rfl (j := 0) rfl ?_
    refine zg_getR dd_33_27 zl_T_12 zCs_0 rfl zCr_0_0 ?_
    refine zg_getI (x := (I 1 7)) dd_33_30 zl_T_155 zCs_1 rfl rfl ?_
    refine zg_iload_n dd_33_33 rfl (j := 1) rfl ?_
    obtain ⟨r4, e5, h⟩ := z_bd h
    refine zg_invV_i (av := [.inr (.inr (some 45)), .inl (I 1 7), .inl a1]) (st := []) (n := 3) dd_33_34 ca_34 zw_559 zw_560 zw_561 zCs_180 zcl_3 rfl (mt_fc_Reader_read e5) rfl ⟨by decide +kernel, by decide⟩ (Nat.le_of_ble_eq_true rfl) ?_
    refine zg_istore_n dd_33_37 rfl (Nat.le_of_ble_eq_true rfl) (lv' := [(2, .inl r4.1), (0, .inr (.inr (some 0))), (1, .inl a1)]) rfl ?_
    refine zg_aload_n dd_33_38 rfl (j := 1) rfl ?_
    refine zg_getR dd_33_39 zl_T_12 zCs_0 rfl zCr_0_0 ?_
    refine zg_iconst dd_33_42 kI_0 ?_
    refine zg_putI dd_33_43 zp_T_155 zCs_1 rfl (zSt_int _) ?_
    refine zg_iload_n dd_33_46 rfl (j := 0) rfl ?_
    refine zg_if_ne (tgt := 61) dd_33_47 (by decide) (fun q6 => ?_) (fun q6 => ?_)
    · replace h := z_f h q6
      refine zg_aload_n dd_33_61 rfl (j := 1) rfl ?_
      refine zg_iload_n dd_33_62 rfl (j := 2) rfl ?_
      obtain ⟨r7, e8, h⟩ := z_bd h
      refine zg_invV_r (av := [.inl a1]) (st := []) (n := 1) dd_33_63 ca_46 zw_614 zw_616 zv_16 zCs_0 zcl_11 rfl (mt_fc_T_textOf e8) rfl ⟨by decide +kernel, by decide⟩ (Nat.le_of_ble_eq_true rfl) ?_
      rcases z_if h with ⟨q9, h⟩ | ⟨q9, h⟩
      · rw [q9]
        refine zg_aload_n dd_33_66 rfl (j := 1) rfl ?_
        refine zg_getR dd_33_67 zl_T_65 zCs_0 rfl zCr_0_11 ?_
        obtain ⟨r10, e11, h⟩ := z_bd h
        refine zg_invV_v (av := [.inr (.inr (some 180))]) (st := []) (n := 1) dd_33_70 ca_47 zw_618 zw_619 zw_620 zCs_40 zcl_5 rfl (mt_fc_Text_takeFrom e11) rfl ⟨by decide +kernel, by decide⟩ (Nat.le_of_ble_eq_true rfl) ?_
        refine zg_iconst dd_33_73 kI_1 ?_
        obtain rfl := Option.some.inj h
        exact zg_iret dd_33_74 rfl
      rcases z_if h with ⟨q12, h⟩ | ⟨q12, h⟩
      · rw [q12]
        refine zg_aload_n dd_33_66 rfl (j := 1) rfl ?_
        refine zg_getR dd_33_67 zl_T_65 zCs_0 rfl zCr_0_11 ?_
        obtain ⟨r13, e14, h⟩ := z_bd h
        refine zg_invV_v (av := [.inr (.inr (some 180))]) (st := []) (n := 1) dd_33_70 ca_47 zw_618 zw_619 zw_620 zCs_35 zcl_5 rfl (mt_fc_Text_takeFrom_2 e14) rfl ⟨by decide +kernel, by decide⟩ (Nat.le_of_ble_eq_true rfl) ?_
        refine zg_iconst dd_33_73 kI_1 ?_
        obtain rfl := Option.some.inj h
        exact zg_iret dd_33_74 rfl
      cases h
    · replace h := z_t h q6
      refine zg_bipush dd_33_50 kB_m10 ?_
      refine zg_aload_n dd_33_52 rfl (j := 1) rfl ?_
      refine zg_getR dd_33_53 zl_T_65 zCs_0 rfl zCr_0_11 ?_
      refine zg_getI (x := (r4.2 180 3)) dd_33_56 zl_T_165 zCs_180 rfl rfl ?_
      refine zg_isub dd_33_59 ?_
      obtain rfl := Option.some.inj h
      exact zg_iret dd_33_60 rfl
  · replace h := z_t h q3
    refine zg_aload_n dd_33_9 rfl (j := 0) rfl ?_
    refine zg_iconst dd_33_10 kI_1 ?_
    obtain ⟨r15, e16, h⟩ := z_bd h
    refine zg_invV_i (av := [.inl (1 : Int32)]) (st := []) (n := 1) dd_33_11 ca_2 zw_430 zw_432 zv_0 zCs_0 zcl_11 rfl (mt_fc_T_refuse e16) rfl ⟨by decide +kernel, by decide⟩ (Nat.le_of_ble_eq_true rfl) ?_
    obtain rfl := Option.some.inj h
    exact zg_iret dd_33_14 rfl
/-! TurnedLand.untell(0, None) -/
def fc_T_untell (I : zI) (a1 : Int32) : Option (Int32 × zI) :=
  (fc_T_within I a1 (0 : Int32) (1 : Int32)).bind fun r1 =>
  if r1 = 0 then
    (fc_T_refuse I (1 : Int32)).bind fun r10 =>
    some (r10.1, r10.2)
  else
    (fc_T_textOf I a1).bind fun r4 =>
    if r4 = 40 then
      if (I 40 0) = 0 then
        some ((0 : Int32), (zup I 40 0 (0 : Int32)))
      else
        some ((1 : Int32), (zup I 40 0 (0 : Int32)))
    else if r4 = 35 then
      if (I 35 0) = 0 then
        some ((0 : Int32), (zup I 35 0 (0 : Int32)))
      else
        some ((1 : Int32), (zup I 35 0 (0 : Int32)))
    else none
set_option maxRecDepth 20000 in
theorem mt_fc_T_untell {I : zI} {a1 : Int32} {res : (Int32 × zI)} (h : fc_T_untell I a1 = some res) : zM 3 ym_48 [.inr (.inr (some 0)), .inl a1] (zCs, zCr, I) (some (.inl res.1)) (zCs, zCr, res.2) 0 0 := by
  refine zM_of (by decide) (Nat.le_of_ble_eq_true rfl) (lv := [(0, .inr (.inr (some 0))), (1, .inl a1)]) rfl ?_
  rw [fc_T_untell] at h
  refine zg_iload_n dd_48_0 rfl (j := 1) rfl ?_
  refine zg_iconst dd_48_1 kI_0 ?_
  refine zg_iconst dd_48_2 kI_1 ?_
  obtain ⟨r1, e2, h⟩ := z_bd h
  refine zg_invS_i (av := [.inl a1, .inl (0 : Int32), .inl (1 : Int32)]) (st := []) (n := 3) dd_48_3 ca_1 zw_427 zw_428 (mt_fc_T_within e2) rfl ⟨by decide +kernel, by decide⟩ (Nat.le_of_ble_eq_true rfl) ?_
  refine zg_if_ne (tgt := 15) dd_48_6 (by decide) (fun q3 => ?_) (fun q3 => ?_)
  · replace h := z_f h q3
    refine zg_aload_n dd_48_15 rfl (j := 0) rfl ?_
    refine zg_iload_n dd_48_16 rfl (j := 1) rfl ?_
    obtain ⟨r4, e5, h⟩ := z_bd h
    refine zg_invV_r (av := [.inl a1]) (st := []) (n := 1) dd_48_17 ca_46 zw_614 zw_616 zv_16 zCs_0 zcl_11 rfl (mt_fc_T_textOf e5) rfl ⟨by decide +kernel, by decide⟩ (Nat.le_of_ble_eq_true rfl) ?_
    rcases z_if h with ⟨q6, h⟩ | ⟨q6, h⟩
    · rw [q6]
      refine zg_astore_n dd_48_20 rfl (Nat.le_of_ble_eq_true rfl) (lv' := [(2, .inr (.inr (some 40))), (0, .inr (.inr (some 0))), (1, .inl a1)]) rfl ?_
      refine zg_aload_n dd_48_21 rfl (j := 0) rfl ?_
      refine zg_getI (x := (I 40 0)) dd_48_22 zl_T_178 zCs_40 rfl rfl ?_
      refine zg_istore_n dd_48_25 rfl (Nat.le_of_ble_eq_true rfl) (lv' := [(3, .inl (I 40 0)), (2, .inr (.inr (some 40))), (0, .inr (.inr (some 0))), (1, .inl a1)]) rfl ?_
      refine zg_aload_n dd_48_26 rfl (j := 1) rfl ?_
      refine zg_iconst dd_48_27 kI_0 ?_
      refine zg_putI dd_48_28 zp_T_178 zCs_40 rfl zSt_b0 ?_
      refine zg_iload_n dd_48_31 rfl (j := 0) rfl ?_
      refine zg_if_eq (tgt := 39) dd_48_32 (by decide) (fun q7 => ?_) (fun q7 => ?_)
      · replace h := z_t h q7
        refine zg_iconst dd_48_39 kI_0 ?_
        obtain rfl := Option.some.inj h
        exact zg_iret dd_48_40 rfl
      · replace h := z_f h q7
        refine zg_iconst dd_48_35 kI_1 ?_
        refine zg_goto (tgt := 40) dd_48_36 (by decide) ?_
        obtain rfl := Option.some.inj h
        exact zg_iret dd_48_40 rfl
    rcases z_if h with ⟨q8, h⟩ | ⟨q8, h⟩
    · rw [q8]
      refine zg_astore_n dd_48_20 rfl (Nat.le_of_ble_eq_true rfl) (lv' := [(2, .inr (.inr (some 35))), (0, .inr (.inr (some 0))), (1, .inl a1)]) rfl ?_
      refine zg_aload_n dd_48_21 rfl (j := 0) rfl ?_
      refine zg_getI (x := (I 35 0)) dd_48_22 zl_T_178 zCs_35 rfl rfl ?_
      refine zg_istore_n dd_48_25 rfl (Nat.le_of_ble_eq_true rfl) (lv' := [(3, .inl (I 35 0)), (2, .inr (.inr (some 35))), (0, .inr (.inr (some 0))), (1, .inl a1)]) rfl ?_
      refine zg_aload_n dd_48_26 rfl (j := 1) rfl ?_
      refine zg_iconst dd_48_27 kI_0 ?_
      refine zg_putI dd_48_28 zp_T_178 zCs_35 rfl zSt_b0 ?_
      refine zg_iload_n dd_48_31 rfl (j := 0) rfl ?_
      refine zg_if_eq (tgt := 39) dd_48_32 (by decide) (fun q9 => ?_) (fun q9 => ?_)
      · replace h := z_t h q9
        refine zg_iconst dd_48_39 kI_0 ?_
        obtain rfl := Option.some.inj h
        exact zg_iret dd_48_40 rfl
      · replace h := z_f h q9
        refine zg_iconst dd_48_35 kI_1 ?_
        refine zg_goto (tgt := 40) dd_48_36 (by decide) ?_
        obtain rfl := Option.some.inj h
        exact zg_iret dd_48_40 rfl
    cases h
  · replace h := z_t h q3
    refine zg_aload_n dd_48_9 rfl (j := 0) rfl ?_
    refine zg_iconst dd_48_10 kI_1 ?_
    obtain ⟨r10, e11, h⟩ := z_bd h
    refine zg_invV_i (av := [.inl (1 : Int32)]) (st := []) (n := 1) dd_48_11 ca_2 zw_430 zw_432 zv_0 zCs_0 zcl_11 rfl (mt_fc_T_refuse e11) rfl ⟨by decide +kernel, by decide⟩ (Nat.le_of_ble_eq_true rfl) ?_
    obtain rfl := Option.some.inj h
    exact zg_iret dd_48_14 rfl
