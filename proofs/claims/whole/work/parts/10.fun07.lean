/-! TurnedLandModel.within[None, None, None] -/
def fm_within (I : zI) (a0 : Int32) (a1 : Int32) (a2 : Int32) : Option Int32 :=
  if a0 < a1 then
    some (0 : Int32)
  else
    if a2 < a0 then
      some (0 : Int32)
    else
      some (1 : Int32)
set_option maxRecDepth 20000 in
theorem mt_fm_within {I : zI} {a0 : Int32} {a1 : Int32} {a2 : Int32} {res : Int32} (h : fm_within I a0 a1 a2 = some res) : zM 1 ym_141 [.inl a0, .inl a1, .inl a2] (zMs, zMr, I) (some (.inl res)) (zMs, zMr, I) 0 0 := by
  refine zM_of (by decide) (Nat.le_of_ble_eq_true rfl) (lv := [(0, .inl a0), (1, .inl a1), (2, .inl a2)]) rfl ?_
  rw [fm_within] at h
  refine zg_iload_n dd_141_0 rfl (j := 0) rfl ?_
  refine zg_iload_n dd_141_1 rfl (j := 1) rfl ?_
  refine zg_icmp_lt (tgt := 14) dd_141_2 (by decide) (fun q1 => ?_) (fun q1 => ?_)
  · replace h := z_t h q1
    refine zg_iconst dd_141_14 kI_0 ?_
    obtain rfl := Option.some.inj h
    exact zg_zret dd_141_15 rfl zSt_b0.1
  · replace h := z_f h q1
    refine zg_iload_n dd_141_5 rfl (j := 0) rfl ?_
    refine zg_iload_n dd_141_6 rfl (j := 2) rfl ?_
    refine zg_icmp_gt (tgt := 14) dd_141_7 (by decide) (fun q2 => ?_) (fun q2 => ?_)
    · replace h := z_t h q2
      refine zg_iconst dd_141_14 kI_0 ?_
      obtain rfl := Option.some.inj h
      exact zg_zret dd_141_15 rfl zSt_b0.1
    · replace h := z_f h q2
      refine zg_iconst dd_141_10 kI_1 ?_
      refine zg_goto (tgt := 15) dd_141_11 (by decide) ?_
      obtain rfl := Option.some.inj h
      exact zg_zret dd_141_15 rfl zSt_b1.1
/-! TurnedLandModel.finding[0, None] -/
def fm_finding (I : zI) (a1 : Int32) : Option (Int32 × zI) :=
  z_guard (zb ((-1000000 : Int32) - a1) 7) <|
  some (a1, (zup I 3 ((-1000000 : Int32) - a1).toNatClampNeg ((I 3 ((-1000000 : Int32) - a1).toNatClampNeg) + (1 : Int32))))
set_option maxRecDepth 20000 in
theorem mt_fm_finding {I : zI} {a1 : Int32} {res : (Int32 × zI)} (h : fm_finding I a1 = some res) : zM 1 ym_142 [.inr (.inr (some 0)), .inl a1] (zMs, zMr, I) (some (.inl res.1)) (zMs, zMr, res.2) 0 0 := by
  refine zM_of (by decide) (Nat.le_of_ble_eq_true rfl) (lv := [(0, .inr (.inr (some 0))), (1, .inl a1)]) rfl ?_
  rw [fm_finding] at h
  refine zg_aload_n dd_142_0 rfl (j := 0) rfl ?_
  refine zg_getR dd_142_1 zl_M_16 zMs_0 rfl zMr_0_3 ?_
  refine zg_ldc dd_142_4 zw_1144 ?_
  refine zg_iload_n dd_142_6 rfl (j := 1) rfl ?_
  refine zg_isub dd_142_7 ?_
  refine zg_dup2 dd_142_8 rfl rfl ?_
  obtain ⟨g1, h⟩ := z_gd h
  refine zg_iald (w := (I 3 ((-1000000 : Int32) - a1).toNatClampNeg)) dd_142_9 zMs_3 g1 rfl ?_
  refine zg_iconst dd_142_10 kI_1 ?_
  refine zg_iadd dd_142_11 ?_
  refine zg_iast dd_142_12 zMs_3 g1 ?_
  refine zg_iload_n dd_142_13 rfl (j := 1) rfl ?_
  obtain rfl := Option.some.inj h
  exact zg_iret dd_142_14 rfl
/-! TurnedLandModel.square(0, None) -/
def fm_square (I : zI) (a1 : Int32) : Option (Int32 × zI) :=
  (fm_within I a1 (1 : Int32) (99 : Int32)).bind fun r1 =>
  if r1 = 0 then
    (fm_finding I (-1000001 : Int32)).bind fun r8 =>
    some (r8.1, r8.2)
  else
    if (I 1 (0 : Int32).toNatClampNeg) = (8 : Int32) then
      (fm_finding I (-1000004 : Int32)).bind fun r6 =>
      some (r6.1, r6.2)
    else
      z_guard (zb ((10 : Int32) + (I 1 (0 : Int32).toNatClampNeg)) 448) <|
      some ((I 1 (0 : Int32).toNatClampNeg), (zup (zup I 1 ((10 : Int32) + (I 1 (0 : Int32).toNatClampNeg)).toNatClampNeg a1) 1 (0 : Int32).toNatClampNeg (((zup I 1 ((10 : Int32) + (I 1 (0 : Int32).toNatClampNeg)).toNatClampNeg a1) 1 (0 : Int32).toNatClampNeg) + (1 : Int32))))
set_option maxRecDepth 20000 in
theorem mt_fm_square {I : zI} {a1 : Int32} {res : (Int32 × zI)} (h : fm_square I a1 = some res) : zM 2 ym_140 [.inr (.inr (some 0)), .inl a1] (zMs, zMr, I) (some (.inl res.1)) (zMs, zMr, res.2) 0 0 := by
  refine zM_of (by decide) (Nat.le_of_ble_eq_true rfl) (lv := [(0, .inr (.inr (some 0))), (1, .inl a1)]) rfl ?_
  rw [fm_square] at h
  refine zg_iload_n dd_140_0 rfl (j := 1) rfl ?_
  refine zg_iconst dd_140_1 kI_1 ?_
  refine zg_bipush dd_140_2 kB_99 ?_
  obtain ⟨r1, e2, h⟩ := z_bd h
  refine zg_invS_i (av := [.inl a1, .inl (1 : Int32), .inl (99 : Int32)]) (st := []) (n := 3) dd_140_4 ca_141 zw_1136 zw_1137 (mt_fm_within e2) rfl ⟨by decide +kernel, by decide⟩ (Nat.le_of_ble_eq_true rfl) ?_
  refine zg_if_ne (tgt := 17) dd_140_7 (by decide) (fun q3 => ?_) (fun q3 => ?_)
  · replace h := z_f h q3
    refine zg_aload_n dd_140_17 rfl (j := 0) rfl ?_
    refine zg_getR dd_140_18 zl_M_9 zMs_0 rfl zMr_0_0 ?_
    refine zg_iconst dd_140_21 kI_0 ?_
    refine zg_iald (w := (I 1 (0 : Int32).toNatClampNeg)) dd_140_22 zMs_1 (by decide) rfl ?_
    refine zg_istore_n dd_140_23 rfl (Nat.le_of_ble_eq_true rfl) (lv' := [(2, .inl (I 1 (0 : Int32).toNatClampNeg)), (0, .inr (.inr (some 0))), (1, .inl a1)]) rfl ?_
    refine zg_iload_n dd_140_24 rfl (j := 0) rfl ?_
    refine zg_bipush dd_140_25 kB_8 ?_
    refine zg_icmp_ne (tgt := 37) dd_140_27 (by decide) (fun q4 => ?_) (fun q4 => ?_)
    · replace h := z_f h q4
      refine zg_aload_n dd_140_37 rfl (j := 1) rfl ?_
      refine zg_getR dd_140_38 zl_M_9 zMs_0 rfl zMr_0_0 ?_
      refine zg_bipush dd_140_41 kB_10 ?_
      refine zg_iload_n dd_140_43 rfl (j := 0) rfl ?_
      refine zg_iadd dd_140_44 ?_
      refine zg_iload_n dd_140_45 rfl (j := 2) rfl ?_
      obtain ⟨g5, h⟩ := z_gd h
      refine zg_iast dd_140_46 zMs_1 g5 ?_
      refine zg_aload_n dd_140_47 rfl (j := 1) rfl ?_
      refine zg_getR dd_140_48 zl_M_9 zMs_0 rfl zMr_0_0 ?_
      refine zg_iconst dd_140_51 kI_0 ?_
      refine zg_dup2 dd_140_52 rfl rfl ?_
      refine zg_iald (w := ((zup I 1 ((10 : Int32) + (I 1 (0 : Int32).toNatClampNeg)).toNatClampNeg a1) 1 (0 : Int32).toNatClampNeg)) dd_140_53 zMs_1 (by decide) rfl ?_
      refine zg_iconst dd_140_54 kI_1 ?_
      refine zg_iadd dd_140_55 ?_
      refine zg_iast dd_140_56 zMs_1 (by decide) ?_
      refine zg_iload_n dd_140_57 rfl (j := 0) rfl ?_
      obtain rfl := Option.some.inj h
      exact zg_iret dd_140_58 rfl
    · replace h := z_t h q4
      refine zg_aload_n dd_140_30 rfl (j := 1) rfl ?_
      refine zg_ldc dd_140_31 zw_1145 ?_
      obtain ⟨r6, e7, h⟩ := z_bd h
      refine zg_invV_i (av := [.inl (-1000004 : Int32)]) (st := []) (n := 1) dd_140_33 ca_142 zw_1140 zw_1142 zv_31 zMs_0 zcl_12 rfl (mt_fm_finding e7) rfl ⟨by decide +kernel, by decide⟩ (Nat.le_of_ble_eq_true rfl) ?_
      obtain rfl := Option.some.inj h
      exact zg_iret dd_140_36 rfl
  · replace h := z_t h q3
    refine zg_aload_n dd_140_10 rfl (j := 0) rfl ?_
    refine zg_ldc dd_140_11 zw_1139 ?_
    obtain ⟨r8, e9, h⟩ := z_bd h
    refine zg_invV_i (av := [.inl (-1000001 : Int32)]) (st := []) (n := 1) dd_140_13 ca_142 zw_1140 zw_1142 zv_31 zMs_0 zcl_12 rfl (mt_fm_finding e9) rfl ⟨by decide +kernel, by decide⟩ (Nat.le_of_ble_eq_true rfl) ?_
    obtain rfl := Option.some.inj h
    exact zg_iret dd_140_16 rfl
/-! TurnedLandModel.is[0, None, None] -/
def fm_is (I : zI) (a1 : Int32) (a2 : Int32) : Option Int32 :=
  z_guard (zb a2 448) <|
  (fm_within I a1 (0 : Int32) ((I 1 a2.toNatClampNeg) - (1 : Int32))).bind fun r2 =>
  z_guard (zbb r2) <|
  some r2
set_option maxRecDepth 20000 in
theorem mt_fm_is {I : zI} {a1 : Int32} {a2 : Int32} {res : Int32} (h : fm_is I a1 a2 = some res) : zM 2 ym_144 [.inr (.inr (some 0)), .inl a1, .inl a2] (zMs, zMr, I) (some (.inl res)) (zMs, zMr, I) 0 0 := by
  refine zM_of (by decide) (Nat.le_of_ble_eq_true rfl) (lv := [(0, .inr (.inr (some 0))), (1, .inl a1), (2, .inl a2)]) rfl ?_
  rw [fm_is] at h
  refine zg_iload_n dd_144_0 rfl (j := 1) rfl ?_
  refine zg_iconst dd_144_1 kI_0 ?_
  refine zg_aload_n dd_144_2 rfl (j := 0) rfl ?_
  refine zg_getR dd_144_3 zl_M_9 zMs_0 rfl zMr_0_0 ?_
  refine zg_iload_n dd_144_6 rfl (j := 2) rfl ?_
  obtain ⟨g1, h⟩ := z_gd h
  refine zg_iald (w := (I 1 a2.toNatClampNeg)) dd_144_7 zMs_1 g1 rfl ?_
  refine zg_iconst dd_144_8 kI_1 ?_
  refine zg_isub dd_144_9 ?_
  obtain ⟨r2, e3, h⟩ := z_bd h
  refine zg_invS_i (av := [.inl a1, .inl (0 : Int32), .inl ((I 1 a2.toNatClampNeg) - (1 : Int32))]) (st := []) (n := 3) dd_144_10 ca_141 zw_1136 zw_1137 (mt_fm_within e3) rfl ⟨by decide +kernel, by decide⟩ (Nat.le_of_ble_eq_true rfl) ?_
  obtain ⟨g4, h⟩ := z_gd h
  obtain rfl := Option.some.inj h
  exact zg_zret dd_144_13 rfl (zSt_bb g4).1
/-! TurnedLandModel.become[0, None, None] -/
def fm_become (I : zI) (a1 : Int32) (a2 : Int32) : Option (Int32 × zI) :=
  z_guard (zb a1 448) <|
  some ((I 1 a1.toNatClampNeg), (zup I 1 a1.toNatClampNeg a2))
set_option maxRecDepth 20000 in
theorem mt_fm_become {I : zI} {a1 : Int32} {a2 : Int32} {res : (Int32 × zI)} (h : fm_become I a1 a2 = some res) : zM 1 ym_145 [.inr (.inr (some 0)), .inl a1, .inl a2] (zMs, zMr, I) (some (.inl res.1)) (zMs, zMr, res.2) 0 0 := by
  refine zM_of (by decide) (Nat.le_of_ble_eq_true rfl) (lv := [(0, .inr (.inr (some 0))), (1, .inl a1), (2, .inl a2)]) rfl ?_
  rw [fm_become] at h
  refine zg_aload_n dd_145_0 rfl (j := 0) rfl ?_
  refine zg_getR dd_145_1 zl_M_9 zMs_0 rfl zMr_0_0 ?_
  refine zg_iload_n dd_145_4 rfl (j := 1) rfl ?_
  obtain ⟨g1, h⟩ := z_gd h
  refine zg_iald (w := (I 1 a1.toNatClampNeg)) dd_145_5 zMs_1 g1 rfl ?_
  refine zg_istore_n dd_145_6 rfl (Nat.le_of_ble_eq_true rfl) (lv' := [(3, .inl (I 1 a1.toNatClampNeg)), (0, .inr (.inr (some 0))), (1, .inl a1), (2, .inl a2)]) rfl ?_
  refine zg_aload_n dd_145_7 rfl (j := 1) rfl ?_
  refine zg_getR dd_145_8 zl_M_9 zMs_0 rfl zMr_0_0 ?_
  refine zg_iload_n dd_145_11 rfl (j := 2) rfl ?_
  refine zg_iload_n dd_145_12 rfl (j := 3) rfl ?_
  refine zg_iast dd_145_13 zMs_1 g1 ?_
  refine zg_iload_n dd_145_14 rfl (j := 0) rfl ?_
  obtain rfl := Option.some.inj h
  exact zg_iret dd_145_15 rfl
/-! TurnedLandModel.cost(0, None, None) -/
def fm_cost (I : zI) (a1 : Int32) (a2 : Int32) : Option (Int32 × zI) :=
  (fm_is I a1 (0 : Int32)).bind fun r1 =>
  if r1 = 0 then
    (fm_finding I (-1000001 : Int32)).bind fun r4 =>
    some (r4.1, r4.2)
  else
    (fm_within I a2 (1 : Int32) (99 : Int32)).bind fun r6 =>
    if r6 = 0 then
      (fm_finding I (-1000001 : Int32)).bind fun r9 =>
      some (r9.1, r9.2)
    else
      (fm_become I ((10 : Int32) + a1) a2).bind fun r11 =>
      some (r11.1, r11.2)
set_option maxRecDepth 20000 in
theorem mt_fm_cost {I : zI} {a1 : Int32} {a2 : Int32} {res : (Int32 × zI)} (h : fm_cost I a1 a2 = some res) : zM 3 ym_143 [.inr (.inr (some 0)), .inl a1, .inl a2] (zMs, zMr, I) (some (.inl res.1)) (zMs, zMr, res.2) 0 0 := by
  refine zM_of (by decide) (Nat.le_of_ble_eq_true rfl) (lv := [(0, .inr (.inr (some 0))), (1, .inl a1), (2, .inl a2)]) rfl ?_
  rw [fm_cost] at h
  refine zg_aload_n dd_143_0 rfl (j := 0) rfl ?_
  refine zg_iload_n dd_143_1 rfl (j := 1) rfl ?_
  refine zg_iconst dd_143_2 kI_0 ?_
  obtain ⟨r1, e2, h⟩ := z_bd h
  refine zg_invV_i (av := [.inl a1, .inl (0 : Int32)]) (st := []) (n := 2) dd_143_3 ca_144 zw_1150 zw_1152 zv_32 zMs_0 zcl_12 rfl (mt_fm_is e2) rfl ⟨by decide +kernel, by decide⟩ (Nat.le_of_ble_eq_true rfl) ?_
  refine zg_if_eq (tgt := 31) dd_143_6 (by decide) (fun q3 => ?_) (fun q3 => ?_)
  · replace h := z_t h q3
    refine zg_aload_n dd_143_31 rfl (j := 0) rfl ?_
    refine zg_ldc dd_143_32 zw_1139 ?_
    obtain ⟨r4, e5, h⟩ := z_bd h
    refine zg_invV_i (av := [.inl (-1000001 : Int32)]) (st := []) (n := 1) dd_143_34 ca_142 zw_1140 zw_1142 zv_31 zMs_0 zcl_12 rfl (mt_fm_finding e5) rfl ⟨by decide +kernel, by decide⟩ (Nat.le_of_ble_eq_true rfl) ?_
    obtain rfl := Option.some.inj h
    exact zg_iret dd_143_37 rfl
  · replace h := z_f h q3
    refine zg_iload_n dd_143_9 rfl (j := 2) rfl ?_
    refine zg_iconst dd_143_10 kI_1 ?_
    refine zg_bipush dd_143_11 kB_99 ?_
    obtain ⟨r6, e7, h⟩ := z_bd h
    refine zg_invS_i (av := [.inl a2, .inl (1 : Int32), .inl (99 : Int32)]) (st := []) (n := 3) dd_143_13 ca_141 zw_1136 zw_1137 (mt_fm_within e7) rfl ⟨by decide +kernel, by decide⟩ (Nat.le_of_ble_eq_true rfl) ?_
    refine zg_if_eq (tgt := 31) dd_143_16 (by decide) (fun q8 => ?_) (fun q8 => ?_)
    · replace h := z_t h q8
      refine zg_aload_n dd_143_31 rfl (j := 0) rfl ?_
      refine zg_ldc dd_143_32 zw_1139 ?_
      obtain ⟨r9, e10, h⟩ := z_bd h
      refine zg_invV_i (av := [.inl (-1000001 : Int32)]) (st := []) (n := 1) dd_143_34 ca_142 zw_1140 zw_1142 zv_31 zMs_0 zcl_12 rfl (mt_fm_finding e10) rfl ⟨by decide +kernel, by decide⟩ (Nat.le_of_ble_eq_true rfl) ?_
      obtain rfl := Option.some.inj h
      exact zg_iret dd_143_37 rfl
    · replace h := z_f h q8
      refine zg_aload_n dd_143_19 rfl (j := 0) rfl ?_
      refine zg_bipush dd_143_20 kB_10 ?_
      refine zg_iload_n dd_143_22 rfl (j := 1) rfl ?_
      refine zg_iadd dd_143_23 ?_
      refine zg_iload_n dd_143_24 rfl (j := 2) rfl ?_
      obtain ⟨r11, e12, h⟩ := z_bd h
      refine zg_invV_i (av := [.inl ((10 : Int32) + a1), .inl a2]) (st := []) (n := 2) dd_143_25 ca_145 zw_1154 zw_1156 zv_33 zMs_0 zcl_12 rfl (mt_fm_become e12) rfl ⟨by decide +kernel, by decide⟩ (Nat.le_of_ble_eq_true rfl) ?_
      refine zg_goto (tgt := 37) dd_143_28 (by decide) ?_
      obtain rfl := Option.some.inj h
      exact zg_iret dd_143_37 rfl
/-! TurnedLandModel.isEdge[0, None] -/
def fm_isEdge (I : zI) (a1 : Int32) : Option Int32 :=
  (fm_within I a1 (0 : Int32) (((4 : Int32) * (I 1 (0 : Int32).toNatClampNeg)) - (1 : Int32))).bind fun r1 =>
  z_guard (zbb r1) <|
  some r1
set_option maxRecDepth 20000 in
theorem mt_fm_isEdge {I : zI} {a1 : Int32} {res : Int32} (h : fm_isEdge I a1 = some res) : zM 2 ym_148 [.inr (.inr (some 0)), .inl a1] (zMs, zMr, I) (some (.inl res)) (zMs, zMr, I) 0 0 := by
  refine zM_of (by decide) (Nat.le_of_ble_eq_true rfl) (lv := [(0, .inr (.inr (some 0))), (1, .inl a1)]) rfl ?_
  rw [fm_isEdge] at h
  refine zg_iload_n dd_148_0 rfl (j := 1) rfl ?_
  refine zg_iconst dd_148_1 kI_0 ?_
  refine zg_iconst dd_148_2 kI_4 ?_
  refine zg_aload_n dd_148_3 rfl (j := 0) rfl ?_
  refine zg_getR dd_148_4 zl_M_9 zMs_0 rfl zMr_0_0 ?_
  refine zg_iconst dd_148_7 kI_0 ?_
  refine zg_iald (w := (I 1 (0 : Int32).toNatClampNeg)) dd_148_8 zMs_1 (by decide) rfl ?_
  refine zg_imul dd_148_9 ?_
  refine zg_iconst dd_148_10 kI_1 ?_
  refine zg_isub dd_148_11 ?_
  obtain ⟨r1, e2, h⟩ := z_bd h
  refine zg_invS_i (av := [.inl a1, .inl (0 : Int32), .inl (((4 : Int32) * (I 1 (0 : Int32).toNatClampNeg)) - (1 : Int32))]) (st := []) (n := 3) dd_148_12 ca_141 zw_1136 zw_1137 (mt_fm_within e2) rfl ⟨by decide +kernel, by decide⟩ (Nat.le_of_ble_eq_true rfl) ?_
  obtain ⟨g3, h⟩ := z_gd h
  obtain rfl := Option.some.inj h
  exact zg_zret dd_148_15 rfl (zSt_bb g3).1
/-! TurnedLandModel.joinOf[0, None, None] -/
def fm_joinOf (I : zI) (a1 : Int32) (a2 : Int32) : Option Int32 :=
  z_guard (zb (((18 : Int32) + ((3 : Int32) * a1)) + a2) 448) <|
  some (I 1 (((18 : Int32) + ((3 : Int32) * a1)) + a2).toNatClampNeg)
set_option maxRecDepth 20000 in
theorem mt_fm_joinOf {I : zI} {a1 : Int32} {a2 : Int32} {res : Int32} (h : fm_joinOf I a1 a2 = some res) : zM 1 ym_150 [.inr (.inr (some 0)), .inl a1, .inl a2] (zMs, zMr, I) (some (.inl res)) (zMs, zMr, I) 0 0 := by
  refine zM_of (by decide) (Nat.le_of_ble_eq_true rfl) (lv := [(0, .inr (.inr (some 0))), (1, .inl a1), (2, .inl a2)]) rfl ?_
  rw [fm_joinOf] at h
  refine zg_aload_n dd_150_0 rfl (j := 0) rfl ?_
  refine zg_getR dd_150_1 zl_M_9 zMs_0 rfl zMr_0_0 ?_
  refine zg_bipush dd_150_4 kB_18 ?_
  refine zg_iconst dd_150_6 kI_3 ?_
  refine zg_iload_n dd_150_7 rfl (j := 1) rfl ?_
  refine zg_imul dd_150_8 ?_
  refine zg_iadd dd_150_9 ?_
  refine zg_iload_n dd_150_10 rfl (j := 2) rfl ?_
  refine zg_iadd dd_150_11 ?_
  obtain ⟨g1, h⟩ := z_gd h
  refine zg_iald (w := (I 1 (((18 : Int32) + ((3 : Int32) * a1)) + a2).toNatClampNeg)) dd_150_12 zMs_1 g1 rfl ?_
  obtain rfl := Option.some.inj h
  exact zg_iret dd_150_13 rfl
/-! TurnedLandModel.joinAt[0, None] -/
def fm_joinAt_L4 (I : zI) : Nat → Int32 → Int32 → Int32 → Option Int32
  | 0, _, _, _ => none
  | nf + 1, v1, v2, v3 =>
    if (I 1 (1 : Int32).toNatClampNeg) ≤ v3 then
      some v2
    else
      (fm_joinOf I v3 (0 : Int32)).bind fun r2 =>
      if r2 = v1 then
        fm_joinAt_L4 I nf v1 v3 (v3 + (1 : Int32))
      else
        (fm_joinOf I v3 (1 : Int32)).bind fun r5 =>
        if r5 = v1 then
          fm_joinAt_L4 I nf v1 v3 (v3 + (1 : Int32))
        else
          fm_joinAt_L4 I nf v1 v2 (v3 + (1 : Int32))
def fm_joinAt (I : zI) (a1 : Int32) : Option Int32 :=
  fm_joinAt_L4 I
    100 a1 (-1 : Int32) (0 : Int32)
set_option maxRecDepth 20000 in
theorem lt_fm_joinAt_L4 {res : Int32} {I : zI} : ∀ (nf : Nat) (v1 : Int32) (v2 : Int32) (v3 : Int32), fm_joinAt_L4 I nf v1 v2 v3 = some res → zG 2 ym_149 0 0 (some (.inl res)) (zMs, zMr, I) zMs.length 4 [(0, .inr (.inr (some 0))), (1, .inl v1), (2, .inl v2), (3, .inl v3)] [] (zMs, zMr, I) 0 0 := by
  intro nf
  induction nf with
  | zero =>
    intro v1 v2 v3 h
    have h2 : none = some res := h
    cases h2
  | succ nf ih =>
    intro v1 v2 v3 h
    rw [fm_joinAt_L4] at h
    refine zg_iload_n dd_149_4 rfl (j := 3) rfl ?_
    refine zg_aload_n dd_149_5 rfl (j := 0) rfl ?_
    refine zg_getR dd_149_6 zl_M_9 zMs_0 rfl zMr_0_0 ?_
    refine zg_iconst dd_149_9 kI_1 ?_
    refine zg_iald (w := (I 1 (1 : Int32).toNatClampNeg)) dd_149_10 zMs_1 (by decide) rfl ?_
    refine zg_icmp_ge (tgt := 46) dd_149_11 (by decide) (fun q1 => ?_) (fun q1 => ?_)
    · replace h := z_t h q1
      refine zg_iload_n dd_149_46 rfl (j := 2) rfl ?_
      obtain rfl := Option.some.inj h
      exact zg_iret dd_149_47 rfl
    · replace h := z_f h q1
      refine zg_aload_n dd_149_14 rfl (j := 0) rfl ?_
      refine zg_iload_n dd_149_15 rfl (j := 3) rfl ?_
      refine zg_iconst dd_149_16 kI_0 ?_
      obtain ⟨r2, e3, h⟩ := z_bd h
      refine zg_invV_i (av := [.inl v3, .inl (0 : Int32)]) (st := []) (n := 2) dd_149_17 ca_150 zw_1174 zw_1176 zv_37 zMs_0 zcl_12 rfl (mt_fm_joinOf e3) rfl ⟨by decide +kernel, by decide⟩ (Nat.le_of_ble_eq_true rfl) ?_
      refine zg_iload_n dd_149_20 rfl (j := 1) rfl ?_
      refine zg_icmp_eq (tgt := 34) dd_149_21 (by decide) (fun q4 => ?_) (fun q4 => ?_)
      · replace h := z_t h q4
        refine zg_iload_n dd_149_34 rfl (j := 3) rfl ?_
        refine zg_goto (tgt := 39) dd_149_35 (by decide) ?_
        refine zg_istore_n dd_149_39 rfl (Nat.le_of_ble_eq_true rfl) (lv' := [(2, .inl v3), (0, .inr (.inr (some 0))), (1, .inl v1), (3, .inl v3)]) rfl ?_
        refine zg_iinc dd_149_40 (j := 3) rfl (v := (v3 + (1 : Int32))) (by rw [kI_1]) (Nat.le_of_ble_eq_true rfl) (lv' := [(3, .inl (v3 + (1 : Int32))), (2, .inl v3), (0, .inr (.inr (some 0))), (1, .inl v1)]) rfl ?_
        refine zg_goto (tgt := 4) dd_149_43 (by decide) ?_
        refine zg_sub [2, 3, 1, 0] rfl ?_
        exact ih _ _ _ h
      · replace h := z_f h q4
        refine zg_aload_n dd_149_24 rfl (j := 0) rfl ?_
        refine zg_iload_n dd_149_25 rfl (j := 3) rfl ?_
        refine zg_iconst dd_149_26 kI_1 ?_
        obtain ⟨r5, e6, h⟩ := z_bd h
        refine zg_invV_i (av := [.inl v3, .inl (1 : Int32)]) (st := []) (n := 2) dd_149_27 ca_150 zw_1174 zw_1176 zv_37 zMs_0 zcl_12 rfl (mt_fm_joinOf e6) rfl ⟨by decide +kernel, by decide⟩ (Nat.le_of_ble_eq_true rfl) ?_
        refine zg_iload_n dd_149_30 rfl (j := 1) rfl ?_
        refine zg_icmp_ne (tgt := 38) dd_149_31 (by decide) (fun q7 => ?_) (fun q7 => ?_)
        · replace h := z_f h q7
          refine zg_iload_n dd_149_38 rfl (j := 2) rfl ?_
          refine zg_istore_n dd_149_39 rfl (Nat.le_of_ble_eq_true rfl) (lv' := [(2, .inl v2), (0, .inr (.inr (some 0))), (1, .inl v1), (3, .inl v3)]) rfl ?_
          refine zg_iinc dd_149_40 (j := 3) rfl (v := (v3 + (1 : Int32))) (by rw [kI_1]) (Nat.le_of_ble_eq_true rfl) (lv' := [(3, .inl (v3 + (1 : Int32))), (2, .inl v2), (0, .inr (.inr (some 0))), (1, .inl v1)]) rfl ?_
          refine zg_goto (tgt := 4) dd_149_43 (by decide) ?_
          refine zg_sub [2, 3, 1, 0] rfl ?_
          exact ih _ _ _ h
        · replace h := z_t h q7
          refine zg_iload_n dd_149_34 rfl (j := 3) rfl ?_
          refine zg_goto (tgt := 39) dd_149_35 (by decide) ?_
          refine zg_istore_n dd_149_39 rfl (Nat.le_of_ble_eq_true rfl) (lv' := [(2, .inl v3), (0, .inr (.inr (some 0))), (1, .inl v1), (3, .inl v3)]) rfl ?_
          refine zg_iinc dd_149_40 (j := 3) rfl (v := (v3 + (1 : Int32))) (by rw [kI_1]) (Nat.le_of_ble_eq_true rfl) (lv' := [(3, .inl (v3 + (1 : Int32))), (2, .inl v3), (0, .inr (.inr (some 0))), (1, .inl v1)]) rfl ?_
          refine zg_goto (tgt := 4) dd_149_43 (by decide) ?_
          refine zg_sub [2, 3, 1, 0] rfl ?_
          exact ih _ _ _ h
set_option maxRecDepth 20000 in
theorem mt_fm_joinAt {I : zI} {a1 : Int32} {res : Int32} (h : fm_joinAt I a1 = some res) : zM 2 ym_149 [.inr (.inr (some 0)), .inl a1] (zMs, zMr, I) (some (.inl res)) (zMs, zMr, I) 0 0 := by
  refine zM_of (by decide) (Nat.le_of_ble_eq_true rfl) (lv := [(0, .inr (.inr (some 0))), (1, .inl a1)]) rfl ?_
  rw [fm_joinAt] at h
  refine zg_iconst dd_149_0 kI_m1 ?_
  refine zg_istore_n dd_149_1 rfl (Nat.le_of_ble_eq_true rfl) (lv' := [(2, .inl (-1 : Int32)), (0, .inr (.inr (some 0))), (1, .inl a1)]) rfl ?_
  refine zg_iconst dd_149_2 kI_0 ?_
  refine zg_istore_n dd_149_3 rfl (Nat.le_of_ble_eq_true rfl) (lv' := [(3, .inl (0 : Int32)), (2, .inl (-1 : Int32)), (0, .inr (.inr (some 0))), (1, .inl a1)]) rfl ?_
  refine zg_sub [2, 3, 1, 0] rfl ?_
  refine lt_fm_joinAt_L4  _ _ _ _ h
/-! TurnedLandModel.whyNot[0, None, None, None] -/
def fm_whyNot (I : zI) (a1 : Int32) (a2 : Int32) (a3 : Int32) : Option Int32 :=
  (fm_isEdge I a1).bind fun r1 =>
  if r1 = 0 then
    some (-1000001 : Int32)
  else
    (fm_isEdge I a2).bind fun r4 =>
    if r4 = 0 then
      some (-1000001 : Int32)
    else
      if a1 = a2 then
        some (-1000001 : Int32)
      else
        (fm_within I a3 (0 : Int32) (1 : Int32)).bind fun r8 =>
        if r8 = 0 then
          some (-1000001 : Int32)
        else
          (fm_joinAt I a1).bind fun r11 =>
          if 0 ≤ r11 then
            some (-1000003 : Int32)
          else
            (fm_joinAt I a2).bind fun r14 =>
            if r14 < 0 then
              if (I 1 (1 : Int32).toNatClampNeg) = (16 : Int32) then
                some (-1000004 : Int32)
              else
                some (0 : Int32)
            else
              some (-1000003 : Int32)
set_option maxRecDepth 20000 in
theorem mt_fm_whyNot {I : zI} {a1 : Int32} {a2 : Int32} {a3 : Int32} {res : Int32} (h : fm_whyNot I a1 a2 a3 = some res) : zM 3 ym_147 [.inr (.inr (some 0)), .inl a1, .inl a2, .inl a3] (zMs, zMr, I) (some (.inl res)) (zMs, zMr, I) 0 0 := by
  refine zM_of (by decide) (Nat.le_of_ble_eq_true rfl) (lv := [(0, .inr (.inr (some 0))), (1, .inl a1), (2, .inl a2), (3, .inl a3)]) rfl ?_
  rw [fm_whyNot] at h
  refine zg_aload_n dd_147_0 rfl (j := 0) rfl ?_
  refine zg_iload_n dd_147_1 rfl (j := 1) rfl ?_
  obtain ⟨r1, e2, h⟩ := z_bd h
  refine zg_invV_i (av := [.inl a1]) (st := []) (n := 1) dd_147_2 ca_148 zw_1166 zw_1168 zv_35 zMs_0 zcl_12 rfl (mt_fm_isEdge e2) rfl ⟨by decide +kernel, by decide⟩ (Nat.le_of_ble_eq_true rfl) ?_
  refine zg_if_eq (tgt := 30) dd_147_5 (by decide) (fun q3 => ?_) (fun q3 => ?_)
  · replace h := z_t h q3
    refine zg_ldc dd_147_30 zw_1139 ?_
    obtain rfl := Option.some.inj h
    exact zg_iret dd_147_32 rfl
  · replace h := z_f h q3
    refine zg_aload_n dd_147_8 rfl (j := 0) rfl ?_
    refine zg_iload_n dd_147_9 rfl (j := 2) rfl ?_
    obtain ⟨r4, e5, h⟩ := z_bd h
    refine zg_invV_i (av := [.inl a2]) (st := []) (n := 1) dd_147_10 ca_148 zw_1166 zw_1168 zv_35 zMs_0 zcl_12 rfl (mt_fm_isEdge e5) rfl ⟨by decide +kernel, by decide⟩ (Nat.le_of_ble_eq_true rfl) ?_
    refine zg_if_eq (tgt := 30) dd_147_13 (by decide) (fun q6 => ?_) (fun q6 => ?_)
    · replace h := z_t h q6
      refine zg_ldc dd_147_30 zw_1139 ?_
      obtain rfl := Option.some.inj h
      exact zg_iret dd_147_32 rfl
    · replace h := z_f h q6
      refine zg_iload_n dd_147_16 rfl (j := 1) rfl ?_
      refine zg_iload_n dd_147_17 rfl (j := 2) rfl ?_
      refine zg_icmp_eq (tgt := 30) dd_147_18 (by decide) (fun q7 => ?_) (fun q7 => ?_)
      · replace h := z_t h q7
        refine zg_ldc dd_147_30 zw_1139 ?_
        obtain rfl := Option.some.inj h
        exact zg_iret dd_147_32 rfl
      · replace h := z_f h q7
        refine zg_iload_n dd_147_21 rfl (j := 3) rfl ?_
        refine zg_iconst dd_147_22 kI_0 ?_
        refine zg_iconst dd_147_23 kI_1 ?_
        obtain ⟨r8, e9, h⟩ := z_bd h
        refine zg_invS_i (av := [.inl a3, .inl (0 : Int32), .inl (1 : Int32)]) (st := []) (n := 3) dd_147_24 ca_141 zw_1136 zw_1137 (mt_fm_within e9) rfl ⟨by decide +kernel, by decide⟩ (Nat.le_of_ble_eq_true rfl) ?_
        refine zg_if_ne (tgt := 33) dd_147_27 (by decide) (fun q10 => ?_) (fun q10 => ?_)
        · replace h := z_f h q10
          refine zg_aload_n dd_147_33 rfl (j := 0) rfl ?_
          refine zg_iload_n dd_147_34 rfl (j := 1) rfl ?_
          obtain ⟨r11, e12, h⟩ := z_bd h
          refine zg_invV_i (av := [.inl a1]) (st := []) (n := 1) dd_147_35 ca_149 zw_1170 zw_1172 zv_36 zMs_0 zcl_12 rfl (mt_fm_joinAt e12) rfl ⟨by decide +kernel, by decide⟩ (Nat.le_of_ble_eq_true rfl) ?_
          refine zg_if_ge (tgt := 49) dd_147_38 (by decide) (fun q13 => ?_) (fun q13 => ?_)
          · replace h := z_t h q13
            refine zg_ldc dd_147_49 zw_1178 ?_
            refine zg_goto (tgt := 71) dd_147_51 (by decide) ?_
            obtain rfl := Option.some.inj h
            exact zg_iret dd_147_71 rfl
          · replace h := z_f h q13
            refine zg_aload_n dd_147_41 rfl (j := 0) rfl ?_
            refine zg_iload_n dd_147_42 rfl (j := 2) rfl ?_
            obtain ⟨r14, e15, h⟩ := z_bd h
            refine zg_invV_i (av := [.inl a2]) (st := []) (n := 1) dd_147_43 ca_149 zw_1170 zw_1172 zv_36 zMs_0 zcl_12 rfl (mt_fm_joinAt e15) rfl ⟨by decide +kernel, by decide⟩ (Nat.le_of_ble_eq_true rfl) ?_
            refine zg_if_lt (tgt := 54) dd_147_46 (by decide) (fun q16 => ?_) (fun q16 => ?_)
            · replace h := z_t h q16
              refine zg_aload_n dd_147_54 rfl (j := 0) rfl ?_
              refine zg_getR dd_147_55 zl_M_9 zMs_0 rfl zMr_0_0 ?_
              refine zg_iconst dd_147_58 kI_1 ?_
              refine zg_iald (w := (I 1 (1 : Int32).toNatClampNeg)) dd_147_59 zMs_1 (by decide) rfl ?_
              refine zg_bipush dd_147_60 kB_16 ?_
              refine zg_icmp_ne (tgt := 70) dd_147_62 (by decide) (fun q17 => ?_) (fun q17 => ?_)
              · replace h := z_f h q17
                refine zg_iconst dd_147_70 kI_0 ?_
                obtain rfl := Option.some.inj h
                exact zg_iret dd_147_71 rfl
              · replace h := z_t h q17
                refine zg_ldc dd_147_65 zw_1145 ?_
                refine zg_goto (tgt := 71) dd_147_67 (by decide) ?_
                obtain rfl := Option.some.inj h
                exact zg_iret dd_147_71 rfl
            · replace h := z_f h q16
              refine zg_ldc dd_147_49 zw_1178 ?_
              refine zg_goto (tgt := 71) dd_147_51 (by decide) ?_
              obtain rfl := Option.some.inj h
              exact zg_iret dd_147_71 rfl
        · replace h := z_t h q10
          refine zg_ldc dd_147_30 zw_1139 ?_
          obtain rfl := Option.some.inj h
          exact zg_iret dd_147_32 rfl
/-! TurnedLandModel.joined[0, None, None, None] -/
def fm_joined (I : zI) (a1 : Int32) (a2 : Int32) (a3 : Int32) : Option (Int32 × zI) :=
  z_guard (zb (((18 : Int32) + ((3 : Int32) * (I 1 (1 : Int32).toNatClampNeg))) + (0 : Int32)) 448) <|
  z_guard (zb (((18 : Int32) + ((3 : Int32) * (I 1 (1 : Int32).toNatClampNeg))) + (1 : Int32)) 448) <|
  z_guard (zb (((18 : Int32) + ((3 : Int32) * (I 1 (1 : Int32).toNatClampNeg))) + (2 : Int32)) 448) <|
  some ((I 1 (1 : Int32).toNatClampNeg), (zup (zup (zup (zup I 1 (((18 : Int32) + ((3 : Int32) * (I 1 (1 : Int32).toNatClampNeg))) + (0 : Int32)).toNatClampNeg a1) 1 (((18 : Int32) + ((3 : Int32) * (I 1 (1 : Int32).toNatClampNeg))) + (1 : Int32)).toNatClampNeg a2) 1 (((18 : Int32) + ((3 : Int32) * (I 1 (1 : Int32).toNatClampNeg))) + (2 : Int32)).toNatClampNeg a3) 1 (1 : Int32).toNatClampNeg (((zup (zup (zup I 1 (((18 : Int32) + ((3 : Int32) * (I 1 (1 : Int32).toNatClampNeg))) + (0 : Int32)).toNatClampNeg a1) 1 (((18 : Int32) + ((3 : Int32) * (I 1 (1 : Int32).toNatClampNeg))) + (1 : Int32)).toNatClampNeg a2) 1 (((18 : Int32) + ((3 : Int32) * (I 1 (1 : Int32).toNatClampNeg))) + (2 : Int32)).toNatClampNeg a3) 1 (1 : Int32).toNatClampNeg) + (1 : Int32))))
set_option maxRecDepth 20000 in
theorem mt_fm_joined {I : zI} {a1 : Int32} {a2 : Int32} {a3 : Int32} {res : (Int32 × zI)} (h : fm_joined I a1 a2 a3 = some res) : zM 1 ym_151 [.inr (.inr (some 0)), .inl a1, .inl a2, .inl a3] (zMs, zMr, I) (some (.inl res.1)) (zMs, zMr, res.2) 0 0 := by
  refine zM_of (by decide) (Nat.le_of_ble_eq_true rfl) (lv := [(0, .inr (.inr (some 0))), (1, .inl a1), (2, .inl a2), (3, .inl a3)]) rfl ?_
  rw [fm_joined] at h
  refine zg_aload_n dd_151_0 rfl (j := 0) rfl ?_
  refine zg_getR dd_151_1 zl_M_9 zMs_0 rfl zMr_0_0 ?_
  refine zg_iconst dd_151_4 kI_1 ?_
  refine zg_iald (w := (I 1 (1 : Int32).toNatClampNeg)) dd_151_5 zMs_1 (by decide) rfl ?_
  refine zg_istore dd_151_6 (Nat.le_of_ble_eq_true rfl) (lv' := [(4, .inl (I 1 (1 : Int32).toNatClampNeg)), (0, .inr (.inr (some 0))), (1, .inl a1), (2, .inl a2), (3, .inl a3)]) rfl ?_
  refine zg_aload_n dd_151_8 rfl (j := 1) rfl ?_
  refine zg_getR dd_151_9 zl_M_9 zMs_0 rfl zMr_0_0 ?_
  refine zg_bipush dd_151_12 kB_18 ?_
  refine zg_iconst dd_151_14 kI_3 ?_
  refine zg_iload dd_151_15 (j := 0) rfl ?_
  refine zg_imul dd_151_17 ?_
  refine zg_iadd dd_151_18 ?_
  refine zg_iconst dd_151_19 kI_0 ?_
  refine zg_iadd dd_151_20 ?_
  refine zg_iload_n dd_151_21 rfl (j := 2) rfl ?_
  obtain ⟨g1, h⟩ := z_gd h
  refine zg_iast dd_151_22 zMs_1 g1 ?_
  refine zg_aload_n dd_151_23 rfl (j := 1) rfl ?_
  refine zg_getR dd_151_24 zl_M_9 zMs_0 rfl zMr_0_0 ?_
  refine zg_bipush dd_151_27 kB_18 ?_
  refine zg_iconst dd_151_29 kI_3 ?_
  refine zg_iload dd_151_30 (j := 0) rfl ?_
  refine zg_imul dd_151_32 ?_
  refine zg_iadd dd_151_33 ?_
  refine zg_iconst dd_151_34 kI_1 ?_
  refine zg_iadd dd_151_35 ?_
  refine zg_iload_n dd_151_36 rfl (j := 3) rfl ?_
  obtain ⟨g2, h⟩ := z_gd h
  refine zg_iast dd_151_37 zMs_1 g2 ?_
  refine zg_aload_n dd_151_38 rfl (j := 1) rfl ?_
  refine zg_getR dd_151_39 zl_M_9 zMs_0 rfl zMr_0_0 ?_
  refine zg_bipush dd_151_42 kB_18 ?_
  refine zg_iconst dd_151_44 kI_3 ?_
  refine zg_iload dd_151_45 (j := 0) rfl ?_
  refine zg_imul dd_151_47 ?_
  refine zg_iadd dd_151_48 ?_
  refine zg_iconst dd_151_49 kI_2 ?_
  refine zg_iadd dd_151_50 ?_
  refine zg_iload_n dd_151_51 rfl (j := 4) rfl ?_
  obtain ⟨g3, h⟩ := z_gd h
  refine zg_iast dd_151_52 zMs_1 g3 ?_
  refine zg_aload_n dd_151_53 rfl (j := 1) rfl ?_
  refine zg_getR dd_151_54 zl_M_9 zMs_0 rfl zMr_0_0 ?_
  refine zg_iconst dd_151_57 kI_1 ?_
  refine zg_dup2 dd_151_58 rfl rfl ?_
  refine zg_iald (w := ((zup (zup (zup I 1 (((18 : Int32) + ((3 : Int32) * (I 1 (1 : Int32).toNatClampNeg))) + (0 : Int32)).toNatClampNeg a1) 1 (((18 : Int32) + ((3 : Int32) * (I 1 (1 : Int32).toNatClampNeg))) + (1 : Int32)).toNatClampNeg a2) 1 (((18 : Int32) + ((3 : Int32) * (I 1 (1 : Int32).toNatClampNeg))) + (2 : Int32)).toNatClampNeg a3) 1 (1 : Int32).toNatClampNeg)) dd_151_59 zMs_1 (by decide) rfl ?_
  refine zg_iconst dd_151_60 kI_1 ?_
  refine zg_iadd dd_151_61 ?_
  refine zg_iast dd_151_62 zMs_1 (by decide) ?_
  refine zg_iload dd_151_63 (j := 0) rfl ?_
  obtain rfl := Option.some.inj h
  exact zg_iret dd_151_65 rfl
/-! TurnedLandModel.join(0, None, None, None) -/
def fm_join (I : zI) (a1 : Int32) (a2 : Int32) (a3 : Int32) : Option (Int32 × zI) :=
  (fm_whyNot I a1 a2 a3).bind fun r1 =>
  if r1 = 0 then
    (fm_joined I a1 a2 a3).bind fun r4 =>
    some (r4.1, r4.2)
  else
    (fm_finding I r1).bind fun r6 =>
    some (r6.1, r6.2)
set_option maxRecDepth 20000 in
theorem mt_fm_join {I : zI} {a1 : Int32} {a2 : Int32} {a3 : Int32} {res : (Int32 × zI)} (h : fm_join I a1 a2 a3 = some res) : zM 4 ym_146 [.inr (.inr (some 0)), .inl a1, .inl a2, .inl a3] (zMs, zMr, I) (some (.inl res.1)) (zMs, zMr, res.2) 0 0 := by
  refine zM_of (by decide) (Nat.le_of_ble_eq_true rfl) (lv := [(0, .inr (.inr (some 0))), (1, .inl a1), (2, .inl a2), (3, .inl a3)]) rfl ?_
  rw [fm_join] at h
  refine zg_aload_n dd_146_0 rfl (j := 0) rfl ?_
  refine zg_iload_n dd_146_1 rfl (j := 1) rfl ?_
  refine zg_iload_n dd_146_2 rfl (j := 2) rfl ?_
  refine zg_iload_n dd_146_3 rfl (j := 3) rfl ?_
  obtain ⟨r1, e2, h⟩ := z_bd h
  refine zg_invV_i (av := [.inl a1, .inl a2, .inl a3]) (st := []) (n := 3) dd_146_4 ca_147 zw_1162 zw_1164 zv_34 zMs_0 zcl_12 rfl (mt_fm_whyNot e2) rfl ⟨by decide +kernel, by decide⟩ (Nat.le_of_ble_eq_true rfl) ?_
  refine zg_istore dd_146_7 (Nat.le_of_ble_eq_true rfl) (lv' := [(4, .inl r1), (0, .inr (.inr (some 0))), (1, .inl a1), (2, .inl a2), (3, .inl a3)]) rfl ?_
  refine zg_iload dd_146_9 (j := 0) rfl ?_
  refine zg_if_eq (tgt := 23) dd_146_11 (by decide) (fun q3 => ?_) (fun q3 => ?_)
  · replace h := z_t h q3
    refine zg_aload_n dd_146_23 rfl (j := 1) rfl ?_
    refine zg_iload_n dd_146_24 rfl (j := 2) rfl ?_
    refine zg_iload_n dd_146_25 rfl (j := 3) rfl ?_
    refine zg_iload_n dd_146_26 rfl (j := 4) rfl ?_
    obtain ⟨r4, e5, h⟩ := z_bd h
    refine zg_invV_i (av := [.inl a1, .inl a2, .inl a3]) (st := []) (n := 3) dd_146_27 ca_151 zw_1179 zw_1181 zv_38 zMs_0 zcl_12 rfl (mt_fm_joined e5) rfl ⟨by decide +kernel, by decide⟩ (Nat.le_of_ble_eq_true rfl) ?_
    obtain rfl := Option.some.inj h
    exact zg_iret dd_146_30 rfl
  · replace h := z_f h q3
    refine zg_aload_n dd_146_14 rfl (j := 1) rfl ?_
    refine zg_iload dd_146_15 (j := 0) rfl ?_
    obtain ⟨r6, e7, h⟩ := z_bd h
    refine zg_invV_i (av := [.inl r1]) (st := []) (n := 1) dd_146_17 ca_142 zw_1140 zw_1142 zv_31 zMs_0 zcl_12 rfl (mt_fm_finding e7) rfl ⟨by decide +kernel, by decide⟩ (Nat.le_of_ble_eq_true rfl) ?_
    refine zg_goto (tgt := 30) dd_146_20 (by decide) ?_
    obtain rfl := Option.some.inj h
    exact zg_iret dd_146_30 rfl
/-! TurnedLandModel.joinIs(0, None, None) -/
def fm_joinIs (I : zI) (a1 : Int32) (a2 : Int32) : Option (Int32 × zI) :=
  (fm_is I a1 (1 : Int32)).bind fun r1 =>
  if r1 = 0 then
    (fm_finding I (-1000001 : Int32)).bind fun r4 =>
    some (r4.1, r4.2)
  else
    (fm_within I a2 (0 : Int32) (2 : Int32)).bind fun r6 =>
    if r6 = 0 then
      (fm_finding I (-1000001 : Int32)).bind fun r9 =>
      some (r9.1, r9.2)
    else
      (fm_joinOf I a1 a2).bind fun r11 =>
      some (r11, I)
set_option maxRecDepth 20000 in
theorem mt_fm_joinIs {I : zI} {a1 : Int32} {a2 : Int32} {res : (Int32 × zI)} (h : fm_joinIs I a1 a2 = some res) : zM 3 ym_152 [.inr (.inr (some 0)), .inl a1, .inl a2] (zMs, zMr, I) (some (.inl res.1)) (zMs, zMr, res.2) 0 0 := by
  refine zM_of (by decide) (Nat.le_of_ble_eq_true rfl) (lv := [(0, .inr (.inr (some 0))), (1, .inl a1), (2, .inl a2)]) rfl ?_
  rw [fm_joinIs] at h
  refine zg_aload_n dd_152_0 rfl (j := 0) rfl ?_
  refine zg_iload_n dd_152_1 rfl (j := 1) rfl ?_
  refine zg_iconst dd_152_2 kI_1 ?_
  obtain ⟨r1, e2, h⟩ := z_bd h
  refine zg_invV_i (av := [.inl a1, .inl (1 : Int32)]) (st := []) (n := 2) dd_152_3 ca_144 zw_1150 zw_1152 zv_32 zMs_0 zcl_12 rfl (mt_fm_is e2) rfl ⟨by decide +kernel, by decide⟩ (Nat.le_of_ble_eq_true rfl) ?_
  refine zg_if_eq (tgt := 27) dd_152_6 (by decide) (fun q3 => ?_) (fun q3 => ?_)
  · replace h := z_t h q3
    refine zg_aload_n dd_152_27 rfl (j := 0) rfl ?_
    refine zg_ldc dd_152_28 zw_1139 ?_
    obtain ⟨r4, e5, h⟩ := z_bd h
    refine zg_invV_i (av := [.inl (-1000001 : Int32)]) (st := []) (n := 1) dd_152_30 ca_142 zw_1140 zw_1142 zv_31 zMs_0 zcl_12 rfl (mt_fm_finding e5) rfl ⟨by decide +kernel, by decide⟩ (Nat.le_of_ble_eq_true rfl) ?_
    obtain rfl := Option.some.inj h
    exact zg_iret dd_152_33 rfl
  · replace h := z_f h q3
    refine zg_iload_n dd_152_9 rfl (j := 2) rfl ?_
    refine zg_iconst dd_152_10 kI_0 ?_
    refine zg_iconst dd_152_11 kI_2 ?_
    obtain ⟨r6, e7, h⟩ := z_bd h
    refine zg_invS_i (av := [.inl a2, .inl (0 : Int32), .inl (2 : Int32)]) (st := []) (n := 3) dd_152_12 ca_141 zw_1136 zw_1137 (mt_fm_within e7) rfl ⟨by decide +kernel, by decide⟩ (Nat.le_of_ble_eq_true rfl) ?_
    refine zg_if_eq (tgt := 27) dd_152_15 (by decide) (fun q8 => ?_) (fun q8 => ?_)
    · replace h := z_t h q8
      refine zg_aload_n dd_152_27 rfl (j := 0) rfl ?_
      refine zg_ldc dd_152_28 zw_1139 ?_
      obtain ⟨r9, e10, h⟩ := z_bd h
      refine zg_invV_i (av := [.inl (-1000001 : Int32)]) (st := []) (n := 1) dd_152_30 ca_142 zw_1140 zw_1142 zv_31 zMs_0 zcl_12 rfl (mt_fm_finding e10) rfl ⟨by decide +kernel, by decide⟩ (Nat.le_of_ble_eq_true rfl) ?_
      obtain rfl := Option.some.inj h
      exact zg_iret dd_152_33 rfl
    · replace h := z_f h q8
      refine zg_aload_n dd_152_18 rfl (j := 0) rfl ?_
      refine zg_iload_n dd_152_19 rfl (j := 1) rfl ?_
      refine zg_iload_n dd_152_20 rfl (j := 2) rfl ?_
      obtain ⟨r11, e12, h⟩ := z_bd h
      refine zg_invV_i (av := [.inl a1, .inl a2]) (st := []) (n := 2) dd_152_21 ca_150 zw_1174 zw_1176 zv_37 zMs_0 zcl_12 rfl (mt_fm_joinOf e12) rfl ⟨by decide +kernel, by decide⟩ (Nat.le_of_ble_eq_true rfl) ?_
      refine zg_goto (tgt := 33) dd_152_24 (by decide) ?_
      obtain rfl := Option.some.inj h
      exact zg_iret dd_152_33 rfl
/-! TurnedLandModel.turn(0, None, None) -/
def fm_turn (I : zI) (a1 : Int32) (a2 : Int32) : Option (Int32 × zI) :=
  (fm_is I a1 (1 : Int32)).bind fun r1 =>
  if r1 = 0 then
    (fm_finding I (-1000001 : Int32)).bind fun r4 =>
    some (r4.1, r4.2)
  else
    (fm_within I a2 (0 : Int32) (1 : Int32)).bind fun r6 =>
    if r6 = 0 then
      (fm_finding I (-1000001 : Int32)).bind fun r9 =>
      some (r9.1, r9.2)
    else
      (fm_become I (((18 : Int32) + ((3 : Int32) * a1)) + (2 : Int32)) a2).bind fun r11 =>
      some (r11.1, r11.2)
set_option maxRecDepth 20000 in
theorem mt_fm_turn {I : zI} {a1 : Int32} {a2 : Int32} {res : (Int32 × zI)} (h : fm_turn I a1 a2 = some res) : zM 3 ym_153 [.inr (.inr (some 0)), .inl a1, .inl a2] (zMs, zMr, I) (some (.inl res.1)) (zMs, zMr, res.2) 0 0 := by
  refine zM_of (by decide) (Nat.le_of_ble_eq_true rfl) (lv := [(0, .inr (.inr (some 0))), (1, .inl a1), (2, .inl a2)]) rfl ?_
  rw [fm_turn] at h
  refine zg_aload_n dd_153_0 rfl (j := 0) rfl ?_
  refine zg_iload_n dd_153_1 rfl (j := 1) rfl ?_
  refine zg_iconst dd_153_2 kI_1 ?_
  obtain ⟨r1, e2, h⟩ := z_bd h
  refine zg_invV_i (av := [.inl a1, .inl (1 : Int32)]) (st := []) (n := 2) dd_153_3 ca_144 zw_1150 zw_1152 zv_32 zMs_0 zcl_12 rfl (mt_fm_is e2) rfl ⟨by decide +kernel, by decide⟩ (Nat.le_of_ble_eq_true rfl) ?_
  refine zg_if_eq (tgt := 34) dd_153_6 (by decide) (fun q3 => ?_) (fun q3 => ?_)
  · replace h := z_t h q3
    refine zg_aload_n dd_153_34 rfl (j := 0) rfl ?_
    refine zg_ldc dd_153_35 zw_1139 ?_
    obtain ⟨r4, e5, h⟩ := z_bd h
    refine zg_invV_i (av := [.inl (-1000001 : Int32)]) (st := []) (n := 1) dd_153_37 ca_142 zw_1140 zw_1142 zv_31 zMs_0 zcl_12 rfl (mt_fm_finding e5) rfl ⟨by decide +kernel, by decide⟩ (Nat.le_of_ble_eq_true rfl) ?_
    obtain rfl := Option.some.inj h
    exact zg_iret dd_153_40 rfl
  · replace h := z_f h q3
    refine zg_iload_n dd_153_9 rfl (j := 2) rfl ?_
    refine zg_iconst dd_153_10 kI_0 ?_
    refine zg_iconst dd_153_11 kI_1 ?_
    obtain ⟨r6, e7, h⟩ := z_bd h
    refine zg_invS_i (av := [.inl a2, .inl (0 : Int32), .inl (1 : Int32)]) (st := []) (n := 3) dd_153_12 ca_141 zw_1136 zw_1137 (mt_fm_within e7) rfl ⟨by decide +kernel, by decide⟩ (Nat.le_of_ble_eq_true rfl) ?_
    refine zg_if_eq (tgt := 34) dd_153_15 (by decide) (fun q8 => ?_) (fun q8 => ?_)
    · replace h := z_t h q8
      refine zg_aload_n dd_153_34 rfl (j := 0) rfl ?_
      refine zg_ldc dd_153_35 zw_1139 ?_
      obtain ⟨r9, e10, h⟩ := z_bd h
      refine zg_invV_i (av := [.inl (-1000001 : Int32)]) (st := []) (n := 1) dd_153_37 ca_142 zw_1140 zw_1142 zv_31 zMs_0 zcl_12 rfl (mt_fm_finding e10) rfl ⟨by decide +kernel, by decide⟩ (Nat.le_of_ble_eq_true rfl) ?_
      obtain rfl := Option.some.inj h
      exact zg_iret dd_153_40 rfl
    · replace h := z_f h q8
      refine zg_aload_n dd_153_18 rfl (j := 0) rfl ?_
      refine zg_bipush dd_153_19 kB_18 ?_
      refine zg_iconst dd_153_21 kI_3 ?_
      refine zg_iload_n dd_153_22 rfl (j := 1) rfl ?_
      refine zg_imul dd_153_23 ?_
      refine zg_iadd dd_153_24 ?_
      refine zg_iconst dd_153_25 kI_2 ?_
      refine zg_iadd dd_153_26 ?_
      refine zg_iload_n dd_153_27 rfl (j := 2) rfl ?_
      obtain ⟨r11, e12, h⟩ := z_bd h
      refine zg_invV_i (av := [.inl (((18 : Int32) + ((3 : Int32) * a1)) + (2 : Int32)), .inl a2]) (st := []) (n := 2) dd_153_28 ca_145 zw_1154 zw_1156 zv_33 zMs_0 zcl_12 rfl (mt_fm_become e12) rfl ⟨by decide +kernel, by decide⟩ (Nat.le_of_ble_eq_true rfl) ?_
      refine zg_goto (tgt := 40) dd_153_31 (by decide) ?_
      obtain rfl := Option.some.inj h
      exact zg_iret dd_153_40 rfl
/-! TurnedLandModel.part(0,) -/
def fm_part (I : zI) : Option (Int32 × zI) :=
  if (I 1 (1 : Int32).toNatClampNeg) = 0 then
    (fm_finding I (-1000003 : Int32)).bind fun r2 =>
    some (r2.1, r2.2)
  else
    some (((zup (zup I 1 (1 : Int32).toNatClampNeg ((I 1 (1 : Int32).toNatClampNeg) - (1 : Int32))) 1 (9 : Int32).toNatClampNeg (((zup I 1 (1 : Int32).toNatClampNeg ((I 1 (1 : Int32).toNatClampNeg) - (1 : Int32))) 1 (9 : Int32).toNatClampNeg) &&& (((1 : Int32) <<< (((I 1 (1 : Int32).toNatClampNeg) - (1 : Int32)) &&& 31)) ^^^ (-1 : Int32)))) 1 (1 : Int32).toNatClampNeg), (zup (zup I 1 (1 : Int32).toNatClampNeg ((I 1 (1 : Int32).toNatClampNeg) - (1 : Int32))) 1 (9 : Int32).toNatClampNeg (((zup I 1 (1 : Int32).toNatClampNeg ((I 1 (1 : Int32).toNatClampNeg) - (1 : Int32))) 1 (9 : Int32).toNatClampNeg) &&& (((1 : Int32) <<< (((I 1 (1 : Int32).toNatClampNeg) - (1 : Int32)) &&& 31)) ^^^ (-1 : Int32)))))
set_option maxRecDepth 20000 in
theorem mt_fm_part {I : zI} {res : (Int32 × zI)} (h : fm_part I = some res) : zM 2 ym_154 [.inr (.inr (some 0))] (zMs, zMr, I) (some (.inl res.1)) (zMs, zMr, res.2) 0 0 := by
  refine zM_of (by decide) (Nat.le_of_ble_eq_true rfl) (lv := [(0, .inr (.inr (some 0)))]) rfl ?_
  rw [fm_part] at h
  refine zg_aload_n dd_154_0 rfl (j := 0) rfl ?_
  refine zg_getR dd_154_1 zl_M_9 zMs_0 rfl zMr_0_0 ?_
  refine zg_iconst dd_154_4 kI_1 ?_
  refine zg_iald (w := (I 1 (1 : Int32).toNatClampNeg)) dd_154_5 zMs_1 (by decide) rfl ?_
  refine zg_if_ne (tgt := 16) dd_154_6 (by decide) (fun q1 => ?_) (fun q1 => ?_)
  · replace h := z_f h q1
    refine zg_aload_n dd_154_16 rfl (j := 0) rfl ?_
    refine zg_getR dd_154_17 zl_M_9 zMs_0 rfl zMr_0_0 ?_
    refine zg_iconst dd_154_20 kI_1 ?_
    refine zg_dup2 dd_154_21 rfl rfl ?_
    refine zg_iald (w := (I 1 (1 : Int32).toNatClampNeg)) dd_154_22 zMs_1 (by decide) rfl ?_
    refine zg_iconst dd_154_23 kI_1 ?_
    refine zg_isub dd_154_24 ?_
    refine zg_iast dd_154_25 zMs_1 (by decide) ?_
    refine zg_aload_n dd_154_26 rfl (j := 0) rfl ?_
    refine zg_getR dd_154_27 zl_M_9 zMs_0 rfl zMr_0_0 ?_
    refine zg_bipush dd_154_30 kB_9 ?_
    refine zg_dup2 dd_154_32 rfl rfl ?_
    refine zg_iald (w := ((zup I 1 (1 : Int32).toNatClampNeg ((I 1 (1 : Int32).toNatClampNeg) - (1 : Int32))) 1 (9 : Int32).toNatClampNeg)) dd_154_33 zMs_1 (by decide) rfl ?_
    refine zg_iconst dd_154_34 kI_1 ?_
    refine zg_aload_n dd_154_35 rfl (j := 0) rfl ?_
    refine zg_getR dd_154_36 zl_M_9 zMs_0 rfl zMr_0_0 ?_
    refine zg_iconst dd_154_39 kI_1 ?_
    refine zg_iald (w := ((I 1 (1 : Int32).toNatClampNeg) - (1 : Int32))) dd_154_40 zMs_1 (by decide) (by simp [zup]) ?_
    refine zg_ishl dd_154_41 ?_
    refine zg_iconst dd_154_42 kI_m1 ?_
    refine zg_ixor dd_154_43 ?_
    refine zg_iand dd_154_44 ?_
    refine zg_iast dd_154_45 zMs_1 (by decide) ?_
    refine zg_aload_n dd_154_46 rfl (j := 0) rfl ?_
    refine zg_getR dd_154_47 zl_M_9 zMs_0 rfl zMr_0_0 ?_
    refine zg_iconst dd_154_50 kI_1 ?_
    refine zg_iald (w := ((zup (zup I 1 (1 : Int32).toNatClampNeg ((I 1 (1 : Int32).toNatClampNeg) - (1 : Int32))) 1 (9 : Int32).toNatClampNeg (((zup I 1 (1 : Int32).toNatClampNeg ((I 1 (1 : Int32).toNatClampNeg) - (1 : Int32))) 1 (9 : Int32).toNatClampNeg) &&& (((1 : Int32) <<< (((I 1 (1 : Int32).toNatClampNeg) - (1 : Int32)) &&& 31)) ^^^ (-1 : Int32)))) 1 (1 : Int32).toNatClampNeg)) dd_154_51 zMs_1 (by decide) rfl ?_
    obtain rfl := Option.some.inj h
    exact zg_iret dd_154_52 rfl
  · replace h := z_t h q1
    refine zg_aload_n dd_154_9 rfl (j := 0) rfl ?_
    refine zg_ldc dd_154_10 zw_1178 ?_
    obtain ⟨r2, e3, h⟩ := z_bd h
    refine zg_invV_i (av := [.inl (-1000003 : Int32)]) (st := []) (n := 1) dd_154_12 ca_142 zw_1140 zw_1142 zv_31 zMs_0 zcl_12 rfl (mt_fm_finding e3) rfl ⟨by decide +kernel, by decide⟩ (Nat.le_of_ble_eq_true rfl) ?_
    obtain rfl := Option.some.inj h
    exact zg_iret dd_154_15 rfl
/-! TurnedLandModel.otherOf[0, None, None] -/
def fm_otherOf (I : zI) (a1 : Int32) (a2 : Int32) : Option Int32 :=
  (fm_joinOf I a1 (0 : Int32)).bind fun r1 =>
  if r1 = a2 then
    (fm_joinOf I a1 (1 : Int32)).bind fun r6 =>
    some r6
  else
    (fm_joinOf I a1 (0 : Int32)).bind fun r4 =>
    some r4
set_option maxRecDepth 20000 in
theorem mt_fm_otherOf {I : zI} {a1 : Int32} {a2 : Int32} {res : Int32} (h : fm_otherOf I a1 a2 = some res) : zM 2 ym_156 [.inr (.inr (some 0)), .inl a1, .inl a2] (zMs, zMr, I) (some (.inl res)) (zMs, zMr, I) 0 0 := by
  refine zM_of (by decide) (Nat.le_of_ble_eq_true rfl) (lv := [(0, .inr (.inr (some 0))), (1, .inl a1), (2, .inl a2)]) rfl ?_
  rw [fm_otherOf] at h
  refine zg_aload_n dd_156_0 rfl (j := 0) rfl ?_
  refine zg_iload_n dd_156_1 rfl (j := 1) rfl ?_
  refine zg_iconst dd_156_2 kI_0 ?_
  obtain ⟨r1, e2, h⟩ := z_bd h
  refine zg_invV_i (av := [.inl a1, .inl (0 : Int32)]) (st := []) (n := 2) dd_156_3 ca_150 zw_1174 zw_1176 zv_37 zMs_0 zcl_12 rfl (mt_fm_joinOf e2) rfl ⟨by decide +kernel, by decide⟩ (Nat.le_of_ble_eq_true rfl) ?_
  refine zg_iload_n dd_156_6 rfl (j := 2) rfl ?_
  refine zg_icmp_ne (tgt := 19) dd_156_7 (by decide) (fun q3 => ?_) (fun q3 => ?_)
  · replace h := z_f h q3
    refine zg_aload_n dd_156_19 rfl (j := 0) rfl ?_
    refine zg_iload_n dd_156_20 rfl (j := 1) rfl ?_
    refine zg_iconst dd_156_21 kI_0 ?_
    obtain ⟨r4, e5, h⟩ := z_bd h
    refine zg_invV_i (av := [.inl a1, .inl (0 : Int32)]) (st := []) (n := 2) dd_156_22 ca_150 zw_1174 zw_1176 zv_37 zMs_0 zcl_12 rfl (mt_fm_joinOf e5) rfl ⟨by decide +kernel, by decide⟩ (Nat.le_of_ble_eq_true rfl) ?_
    obtain rfl := Option.some.inj h
    exact zg_iret dd_156_25 rfl
  · replace h := z_t h q3
    refine zg_aload_n dd_156_10 rfl (j := 0) rfl ?_
    refine zg_iload_n dd_156_11 rfl (j := 1) rfl ?_
    refine zg_iconst dd_156_12 kI_1 ?_
    obtain ⟨r6, e7, h⟩ := z_bd h
    refine zg_invV_i (av := [.inl a1, .inl (1 : Int32)]) (st := []) (n := 2) dd_156_13 ca_150 zw_1174 zw_1176 zv_37 zMs_0 zcl_12 rfl (mt_fm_joinOf e7) rfl ⟨by decide +kernel, by decide⟩ (Nat.le_of_ble_eq_true rfl) ?_
    refine zg_goto (tgt := 25) dd_156_16 (by decide) ?_
    obtain rfl := Option.some.inj h
    exact zg_iret dd_156_25 rfl
/-! TurnedLandModel.across(0, None) -/
def fm_across (I : zI) (a1 : Int32) : Option (Int32 × zI) :=
  (fm_isEdge I a1).bind fun r1 =>
  if r1 = 0 then
    (fm_finding I (-1000001 : Int32)).bind fun r11 =>
    some (r11.1, r11.2)
  else
    (fm_joinAt I a1).bind fun r4 =>
    if 0 ≤ r4 then
      (fm_otherOf I r4 a1).bind fun r7 =>
      some (r7, I)
    else
      (fm_finding I (-1000002 : Int32)).bind fun r9 =>
      some (r9.1, r9.2)
set_option maxRecDepth 20000 in
theorem mt_fm_across {I : zI} {a1 : Int32} {res : (Int32 × zI)} (h : fm_across I a1 = some res) : zM 3 ym_155 [.inr (.inr (some 0)), .inl a1] (zMs, zMr, I) (some (.inl res.1)) (zMs, zMr, res.2) 0 0 := by
  refine zM_of (by decide) (Nat.le_of_ble_eq_true rfl) (lv := [(0, .inr (.inr (some 0))), (1, .inl a1)]) rfl ?_
  rw [fm_across] at h
  refine zg_aload_n dd_155_0 rfl (j := 0) rfl ?_
  refine zg_iload_n dd_155_1 rfl (j := 1) rfl ?_
  obtain ⟨r1, e2, h⟩ := z_bd h
  refine zg_invV_i (av := [.inl a1]) (st := []) (n := 1) dd_155_2 ca_148 zw_1166 zw_1168 zv_35 zMs_0 zcl_12 rfl (mt_fm_isEdge e2) rfl ⟨by decide +kernel, by decide⟩ (Nat.le_of_ble_eq_true rfl) ?_
  refine zg_if_ne (tgt := 15) dd_155_5 (by decide) (fun q3 => ?_) (fun q3 => ?_)
  · replace h := z_f h q3
    refine zg_aload_n dd_155_15 rfl (j := 0) rfl ?_
    refine zg_iload_n dd_155_16 rfl (j := 1) rfl ?_
    obtain ⟨r4, e5, h⟩ := z_bd h
    refine zg_invV_i (av := [.inl a1]) (st := []) (n := 1) dd_155_17 ca_149 zw_1170 zw_1172 zv_36 zMs_0 zcl_12 rfl (mt_fm_joinAt e5) rfl ⟨by decide +kernel, by decide⟩ (Nat.le_of_ble_eq_true rfl) ?_
    refine zg_istore_n dd_155_20 rfl (Nat.le_of_ble_eq_true rfl) (lv' := [(2, .inl r4), (0, .inr (.inr (some 0))), (1, .inl a1)]) rfl ?_
    refine zg_iload_n dd_155_21 rfl (j := 0) rfl ?_
    refine zg_if_ge (tgt := 34) dd_155_22 (by decide) (fun q6 => ?_) (fun q6 => ?_)
    · replace h := z_t h q6
      refine zg_aload_n dd_155_34 rfl (j := 1) rfl ?_
      refine zg_iload_n dd_155_35 rfl (j := 0) rfl ?_
      refine zg_iload_n dd_155_36 rfl (j := 2) rfl ?_
      obtain ⟨r7, e8, h⟩ := z_bd h
      refine zg_invV_i (av := [.inl r4, .inl a1]) (st := []) (n := 2) dd_155_37 ca_156 zw_1200 zw_1202 zv_39 zMs_0 zcl_12 rfl (mt_fm_otherOf e8) rfl ⟨by decide +kernel, by decide⟩ (Nat.le_of_ble_eq_true rfl) ?_
      obtain rfl := Option.some.inj h
      exact zg_iret dd_155_40 rfl
    · replace h := z_f h q6
      refine zg_aload_n dd_155_25 rfl (j := 1) rfl ?_
      refine zg_ldc dd_155_26 zw_1199 ?_
      obtain ⟨r9, e10, h⟩ := z_bd h
      refine zg_invV_i (av := [.inl (-1000002 : Int32)]) (st := []) (n := 1) dd_155_28 ca_142 zw_1140 zw_1142 zv_31 zMs_0 zcl_12 rfl (mt_fm_finding e10) rfl ⟨by decide +kernel, by decide⟩ (Nat.le_of_ble_eq_true rfl) ?_
      refine zg_goto (tgt := 40) dd_155_31 (by decide) ?_
      obtain rfl := Option.some.inj h
      exact zg_iret dd_155_40 rfl
  · replace h := z_t h q3
    refine zg_aload_n dd_155_8 rfl (j := 0) rfl ?_
    refine zg_ldc dd_155_9 zw_1139 ?_
    obtain ⟨r11, e12, h⟩ := z_bd h
    refine zg_invV_i (av := [.inl (-1000001 : Int32)]) (st := []) (n := 1) dd_155_11 ca_142 zw_1140 zw_1142 zv_31 zMs_0 zcl_12 rfl (mt_fm_finding e12) rfl ⟨by decide +kernel, by decide⟩ (Nat.le_of_ble_eq_true rfl) ?_
    obtain rfl := Option.some.inj h
    exact zg_iret dd_155_14 rfl
/-! TurnedLandModel.second[None] -/
def fm_second (I : zI) (a0 : Int32) : Option Int32 :=
  some (((a0 / (4 : Int32)) * (4 : Int32)) + ((a0 + (1 : Int32)) % (4 : Int32)))
set_option maxRecDepth 20000 in
theorem mt_fm_second {I : zI} {a0 : Int32} {res : Int32} (h : fm_second I a0 = some res) : zM 1 ym_160 [.inl a0] (zMs, zMr, I) (some (.inl res)) (zMs, zMr, I) 0 0 := by
  refine zM_of (by decide) (Nat.le_of_ble_eq_true rfl) (lv := [(0, .inl a0)]) rfl ?_
  rw [fm_second] at h
  refine zg_iload_n dd_160_0 rfl (j := 0) rfl ?_
  refine zg_iconst dd_160_1 kI_4 ?_
  refine zg_idiv dd_160_2 (by decide) ?_
  refine zg_iconst dd_160_3 kI_4 ?_
  refine zg_imul dd_160_4 ?_
  refine zg_iload_n dd_160_5 rfl (j := 0) rfl ?_
  refine zg_iconst dd_160_6 kI_1 ?_
  refine zg_iadd dd_160_7 ?_
  refine zg_iconst dd_160_8 kI_4 ?_
  refine zg_irem dd_160_9 (by decide) ?_
  refine zg_iadd dd_160_10 ?_
  obtain rfl := Option.some.inj h
  exact zg_iret dd_160_11 rfl
/-! TurnedLandModel.oneOf[0, None, None] -/
def fm_oneOf_L36 : Nat → Int32 → Int32 → Int32 → zI → Option zI
  | 0, _, _, _, _ => none
  | nf + 1, v3, v4, v5, I =>
    if ((4 : Int32) * (I 1 (0 : Int32).toNatClampNeg)) ≤ v5 then
      some I
    else
      z_guard (zb v5 32) <|
      if (I 4 v5.toNatClampNeg) = v4 then
        fm_oneOf_L36 nf v3 v4 (v5 + (1 : Int32)) (zup I 4 v5.toNatClampNeg v3)
      else
        fm_oneOf_L36 nf v3 v4 (v5 + (1 : Int32)) (zup I 4 v5.toNatClampNeg (I 4 v5.toNatClampNeg))
def fm_oneOf (I : zI) (a1 : Int32) (a2 : Int32) : Option zI :=
  z_guard (zb a1 32) <|
  z_guard (zb a2 32) <|
  fm_oneOf_L36
    100 (zmin (I 4 a1.toNatClampNeg) (I 4 a2.toNatClampNeg)) (zmax (I 4 a1.toNatClampNeg) (I 4 a2.toNatClampNeg)) (0 : Int32) I
set_option maxRecDepth 20000 in
theorem lt_fm_oneOf_L36 {res : zI} : ∀ (nf : Nat) (v3 : Int32) (v4 : Int32) (v5 : Int32) (I : zI), fm_oneOf_L36 nf v3 v4 v5 I = some res → zG 1 ym_161 0 0 none (zMs, zMr, res) zMs.length 36 [(0, .inr (.inr (some 0))), (3, .inl v3), (4, .inl v4), (5, .inl v5)] [] (zMs, zMr, I) 0 0 := by
  intro nf
  induction nf with
  | zero =>
    intro v3 v4 v5 I h
    have h2 : none = some res := h
    cases h2
  | succ nf ih =>
    intro v3 v4 v5 I h
    rw [fm_oneOf_L36] at h
    refine zg_iload dd_161_36 (j := 3) rfl ?_
    refine zg_iconst dd_161_38 kI_4 ?_
    refine zg_aload_n dd_161_39 rfl (j := 0) rfl ?_
    refine zg_getR dd_161_40 zl_M_9 zMs_0 rfl zMr_0_0 ?_
    refine zg_iconst dd_161_43 kI_0 ?_
    refine zg_iald (w := (I 1 (0 : Int32).toNatClampNeg)) dd_161_44 zMs_1 (by decide) rfl ?_
    refine zg_imul dd_161_45 ?_
    refine zg_icmp_ge (tgt := 85) dd_161_46 (by decide) (fun q3 => ?_) (fun q3 => ?_)
    · replace h := z_t h q3
      obtain rfl := Option.some.inj h
      exact zg_vret dd_161_85 rfl
    · replace h := z_f h q3
      refine zg_aload_n dd_161_49 rfl (j := 0) rfl ?_
      refine zg_getR dd_161_50 zl_M_19 zMs_0 rfl zMr_0_4 ?_
      refine zg_iload dd_161_53 (j := 3) rfl ?_
      refine zg_aload_n dd_161_55 rfl (j := 0) rfl ?_
      refine zg_getR dd_161_56 zl_M_19 zMs_0 rfl zMr_0_4 ?_
      refine zg_iload dd_161_59 (j := 3) rfl ?_
      obtain ⟨g4, h⟩ := z_gd h
      refine zg_iald (w := (I 4 v5.toNatClampNeg)) dd_161_61 zMs_4 g4 rfl ?_
      refine zg_iload dd_161_62 (j := 2) rfl ?_
      refine zg_icmp_ne (tgt := 71) dd_161_64 (by decide) (fun q5 => ?_) (fun q5 => ?_)
      · replace h := z_f h q5
        refine zg_aload_n dd_161_71 rfl (j := 0) rfl ?_
        refine zg_getR dd_161_72 zl_M_19 zMs_0 rfl zMr_0_4 ?_
        refine zg_iload dd_161_75 (j := 3) rfl ?_
        refine zg_iald (w := (I 4 v5.toNatClampNeg)) dd_161_77 zMs_4 g4 rfl ?_
        refine zg_iast dd_161_78 zMs_4 g4 ?_
        refine zg_iinc dd_161_79 (j := 3) rfl (v := (v5 + (1 : Int32))) (by rw [kI_1]) (Nat.le_of_ble_eq_true rfl) (lv' := [(5, .inl (v5 + (1 : Int32))), (0, .inr (.inr (some 0))), (3, .inl v3), (4, .inl v4)]) rfl ?_
        refine zg_goto (tgt := 36) dd_161_82 (by decide) ?_
        refine zg_sub [1, 2, 3, 0] rfl ?_
        exact ih _ _ _ _ h
      · replace h := z_t h q5
        refine zg_iload_n dd_161_67 rfl (j := 1) rfl ?_
        refine zg_goto (tgt := 78) dd_161_68 (by decide) ?_
        refine zg_iast dd_161_78 zMs_4 g4 ?_
        refine zg_iinc dd_161_79 (j := 3) rfl (v := (v5 + (1 : Int32))) (by rw [kI_1]) (Nat.le_of_ble_eq_true rfl) (lv' := [(5, .inl (v5 + (1 : Int32))), (0, .inr (.inr (some 0))), (3, .inl v3), (4, .inl v4)]) rfl ?_
        refine zg_goto (tgt := 36) dd_161_82 (by decide) ?_
        refine zg_sub [1, 2, 3, 0] rfl ?_
        exact ih _ _ _ _ h
set_option maxRecDepth 20000 in
theorem mt_fm_oneOf {I : zI} {a1 : Int32} {a2 : Int32} {res : zI} (h : fm_oneOf I a1 a2 = some res) : zM 1 ym_161 [.inr (.inr (some 0)), .inl a1, .inl a2] (zMs, zMr, I) none (zMs, zMr, res) 0 0 := by
  refine zM_of (by decide) (Nat.le_of_ble_eq_true rfl) (lv := [(0, .inr (.inr (some 0))), (1, .inl a1), (2, .inl a2)]) rfl ?_
  rw [fm_oneOf] at h
  refine zg_aload_n dd_161_0 rfl (j := 0) rfl ?_
  refine zg_getR dd_161_1 zl_M_19 zMs_0 rfl zMr_0_4 ?_
  refine zg_iload_n dd_161_4 rfl (j := 1) rfl ?_
  obtain ⟨g1, h⟩ := z_gd h
  refine zg_iald (w := (I 4 a1.toNatClampNeg)) dd_161_5 zMs_4 g1 rfl ?_
  refine zg_aload_n dd_161_6 rfl (j := 0) rfl ?_
  refine zg_getR dd_161_7 zl_M_19 zMs_0 rfl zMr_0_4 ?_
  refine zg_iload_n dd_161_10 rfl (j := 2) rfl ?_
  obtain ⟨g2, h⟩ := z_gd h
  refine zg_iald (w := (I 4 a2.toNatClampNeg)) dd_161_11 zMs_4 g2 rfl ?_
  refine zg_zmin (st := []) dd_161_12 zw_1223 zmin_w (Nat.le_of_ble_eq_true rfl) (Nat.le_of_ble_eq_true rfl) ?_
  refine zg_istore_n dd_161_15 rfl (Nat.le_of_ble_eq_true rfl) (lv' := [(3, .inl (zmin (I 4 a1.toNatClampNeg) (I 4 a2.toNatClampNeg))), (0, .inr (.inr (some 0))), (1, .inl a1), (2, .inl a2)]) rfl ?_
  refine zg_aload_n dd_161_16 rfl (j := 1) rfl ?_
  refine zg_getR dd_161_17 zl_M_19 zMs_0 rfl zMr_0_4 ?_
  refine zg_iload_n dd_161_20 rfl (j := 2) rfl ?_
  refine zg_iald (w := (I 4 a1.toNatClampNeg)) dd_161_21 zMs_4 g1 rfl ?_
  refine zg_aload_n dd_161_22 rfl (j := 1) rfl ?_
  refine zg_getR dd_161_23 zl_M_19 zMs_0 rfl zMr_0_4 ?_
  refine zg_iload_n dd_161_26 rfl (j := 3) rfl ?_
  refine zg_iald (w := (I 4 a2.toNatClampNeg)) dd_161_27 zMs_4 g2 rfl ?_
  refine zg_zmax (st := []) dd_161_28 zw_1224 zmax_w (Nat.le_of_ble_eq_true rfl) (Nat.le_of_ble_eq_true rfl) ?_
  refine zg_istore dd_161_31 (Nat.le_of_ble_eq_true rfl) (lv' := [(4, .inl (zmax (I 4 a1.toNatClampNeg) (I 4 a2.toNatClampNeg))), (3, .inl (zmin (I 4 a1.toNatClampNeg) (I 4 a2.toNatClampNeg))), (0, .inr (.inr (some 0))), (1, .inl a1), (2, .inl a2)]) rfl ?_
  refine zg_iconst dd_161_33 kI_0 ?_
  refine zg_istore dd_161_34 (Nat.le_of_ble_eq_true rfl) (lv' := [(5, .inl (0 : Int32)), (4, .inl (zmax (I 4 a1.toNatClampNeg) (I 4 a2.toNatClampNeg))), (3, .inl (zmin (I 4 a1.toNatClampNeg) (I 4 a2.toNatClampNeg))), (0, .inr (.inr (some 0))), (1, .inl a1), (2, .inl a2)]) rfl ?_
  refine zg_sub [3, 2, 1, 0] rfl ?_
  refine lt_fm_oneOf_L36  _ _ _ _ _ h
/-! TurnedLandModel.findCorners[0] -/
def fm_findCorners_L23 : Nat → Int32 → zI → Option zI
  | 0, _, _ => none
  | nf + 1, v1, I =>
    if (I 1 (1 : Int32).toNatClampNeg) ≤ v1 then
      some I
    else
      (fm_joinOf I v1 (0 : Int32)).bind fun r3 =>
      (fm_joinOf I v1 (1 : Int32)).bind fun r5 =>
      (fm_joinOf I v1 (2 : Int32)).bind fun r7 =>
      if r7 = (1 : Int32) then
        (fm_oneOf I r3 r5).bind fun r21 =>
        (fm_second r21 r3).bind fun r23 =>
        (fm_second r21 r5).bind fun r26 =>
        (fm_oneOf r21 r23 r26).bind fun r28 =>
        fm_findCorners_L23 nf (v1 + (1 : Int32)) r28
      else
        (fm_second I r5).bind fun r11 =>
        (fm_oneOf I r3 r11).bind fun r13 =>
        (fm_second r13 r3).bind fun r15 =>
        (fm_oneOf r13 r15 r5).bind fun r18 =>
        fm_findCorners_L23 nf (v1 + (1 : Int32)) r18
def fm_findCorners_L2 : Nat → Int32 → zI → Option zI
  | 0, _, _ => none
  | nf + 1, v1, I =>
    if (32 : Int32) ≤ v1 then
      fm_findCorners_L23
        100 (0 : Int32) I
    else
      z_guard (zb v1 32) <|
      fm_findCorners_L2 nf (v1 + (1 : Int32)) (zup I 4 v1.toNatClampNeg v1)
def fm_findCorners (I : zI) : Option zI :=
  fm_findCorners_L2
    100 (0 : Int32) I
set_option maxRecDepth 20000 in
theorem lt_fm_findCorners_L23 {res : zI} : ∀ (nf : Nat) (v1 : Int32) (I : zI), fm_findCorners_L23 nf v1 I = some res → zG 2 ym_159 0 0 none (zMs, zMr, res) zMs.length 23 [(0, .inr (.inr (some 0))), (1, .inl v1)] [] (zMs, zMr, I) 0 0 := by
  intro nf
  induction nf with
  | zero =>
    intro v1 I h
    have h2 : none = some res := h
    cases h2
  | succ nf ih =>
    intro v1 I h
    rw [fm_findCorners_L23] at h
    refine zg_iload_n dd_159_23 rfl (j := 1) rfl ?_
    refine zg_aload_n dd_159_24 rfl (j := 0) rfl ?_
    refine zg_getR dd_159_25 zl_M_9 zMs_0 rfl zMr_0_0 ?_
    refine zg_iconst dd_159_28 kI_1 ?_
    refine zg_iald (w := (I 1 (1 : Int32).toNatClampNeg)) dd_159_29 zMs_1 (by decide) rfl ?_
    refine zg_icmp_ge (tgt := 109) dd_159_30 (by decide) (fun q2 => ?_) (fun q2 => ?_)
    · replace h := z_t h q2
      obtain rfl := Option.some.inj h
      exact zg_vret dd_159_109 rfl
    · replace h := z_f h q2
      refine zg_aload_n dd_159_33 rfl (j := 0) rfl ?_
      refine zg_iload_n dd_159_34 rfl (j := 1) rfl ?_
      refine zg_iconst dd_159_35 kI_0 ?_
      obtain ⟨r3, e4, h⟩ := z_bd h
      refine zg_invV_i (av := [.inl v1, .inl (0 : Int32)]) (st := []) (n := 2) dd_159_36 ca_150 zw_1174 zw_1176 zv_37 zMs_0 zcl_12 rfl (mt_fm_joinOf e4) rfl ⟨by decide +kernel, by decide⟩ (Nat.le_of_ble_eq_true rfl) ?_
      refine zg_istore_n dd_159_39 rfl (Nat.le_of_ble_eq_true rfl) (lv' := [(2, .inl r3), (0, .inr (.inr (some 0))), (1, .inl v1)]) rfl ?_
      refine zg_aload_n dd_159_40 rfl (j := 1) rfl ?_
      refine zg_iload_n dd_159_41 rfl (j := 2) rfl ?_
      refine zg_iconst dd_159_42 kI_1 ?_
      obtain ⟨r5, e6, h⟩ := z_bd h
      refine zg_invV_i (av := [.inl v1, .inl (1 : Int32)]) (st := []) (n := 2) dd_159_43 ca_150 zw_1174 zw_1176 zv_37 zMs_0 zcl_12 rfl (mt_fm_joinOf e6) rfl ⟨by decide +kernel, by decide⟩ (Nat.le_of_ble_eq_true rfl) ?_
      refine zg_istore_n dd_159_46 rfl (Nat.le_of_ble_eq_true rfl) (lv' := [(3, .inl r5), (2, .inl r3), (0, .inr (.inr (some 0))), (1, .inl v1)]) rfl ?_
      refine zg_aload_n dd_159_47 rfl (j := 2) rfl ?_
      refine zg_iload_n dd_159_48 rfl (j := 3) rfl ?_
      refine zg_iconst dd_159_49 kI_2 ?_
      obtain ⟨r7, e8, h⟩ := z_bd h
      refine zg_invV_i (av := [.inl v1, .inl (2 : Int32)]) (st := []) (n := 2) dd_159_50 ca_150 zw_1174 zw_1176 zv_37 zMs_0 zcl_12 rfl (mt_fm_joinOf e8) rfl ⟨by decide +kernel, by decide⟩ (Nat.le_of_ble_eq_true rfl) ?_
      refine zg_iconst dd_159_53 kI_1 ?_
      refine zg_icmp_ne (tgt := 61) dd_159_54 (by decide) (fun q9 => ?_) (fun q9 => ?_)
      · replace h := z_f h q9
        refine zg_iconst dd_159_61 kI_0 ?_
        refine zg_istore dd_159_62 (Nat.le_of_ble_eq_true rfl) (lv' := [(4, .inl (0 : Int32)), (3, .inl r5), (2, .inl r3), (0, .inr (.inr (some 0))), (1, .inl v1)]) rfl ?_
        refine zg_aload_n dd_159_64 rfl (j := 3) rfl ?_
        refine zg_iload_n dd_159_65 rfl (j := 2) rfl ?_
        refine zg_iload dd_159_66 (j := 0) rfl ?_
        refine zg_if_eq (tgt := 75) dd_159_68 (by decide) (fun _ => ?_) (fun q10 => absurd q10 (by decide))
        refine zg_iload_n dd_159_75 rfl (j := 1) rfl ?_
        obtain ⟨r11, e12, h⟩ := z_bd h
        refine zg_invS_i (av := [.inl r5]) (st := [.inl r3, .inr (.inr (some 0))]) (n := 1) dd_159_76 ca_160 zw_1216 zw_1217 (mt_fm_second e12) rfl ⟨by decide +kernel, by decide⟩ (Nat.le_of_ble_eq_true rfl) ?_
        obtain ⟨r13, e14, h⟩ := z_bd h
        refine zg_invV_v (av := [.inl r3, .inl r11]) (st := []) (n := 2) dd_159_79 ca_161 zw_1219 zw_1221 zv_42 zMs_0 zcl_12 rfl (mt_fm_oneOf e14) rfl ⟨by decide +kernel, by decide⟩ (Nat.le_of_ble_eq_true rfl) ?_
        refine zg_aload_n dd_159_82 rfl (j := 3) rfl ?_
        refine zg_iload_n dd_159_83 rfl (j := 2) rfl ?_
        obtain ⟨r15, e16, h⟩ := z_bd h
        refine zg_invS_i (av := [.inl r3]) (st := [.inr (.inr (some 0))]) (n := 1) dd_159_84 ca_160 zw_1216 zw_1217 (mt_fm_second e16) rfl ⟨by decide +kernel, by decide⟩ (Nat.le_of_ble_eq_true rfl) ?_
        refine zg_iload dd_159_87 (j := 0) rfl ?_
        refine zg_if_eq (tgt := 99) dd_159_89 (by decide) (fun _ => ?_) (fun q17 => absurd q17 (by decide))
        refine zg_iload_n dd_159_99 rfl (j := 1) rfl ?_
        obtain ⟨r18, e19, h⟩ := z_bd h
        refine zg_invV_v (av := [.inl r15, .inl r5]) (st := []) (n := 2) dd_159_100 ca_161 zw_1219 zw_1221 zv_42 zMs_0 zcl_12 rfl (mt_fm_oneOf e19) rfl ⟨by decide +kernel, by decide⟩ (Nat.le_of_ble_eq_true rfl) ?_
        refine zg_iinc dd_159_103 (j := 4) rfl (v := (v1 + (1 : Int32))) (by rw [kI_1]) (Nat.le_of_ble_eq_true rfl) (lv' := [(1, .inl (v1 + (1 : Int32))), (4, .inl (0 : Int32)), (3, .inl r5), (2, .inl r3), (0, .inr (.inr (some 0)))]) rfl ?_
        refine zg_goto (tgt := 23) dd_159_106 (by decide) ?_
        refine zg_sub [4, 0] rfl ?_
        exact ih _ _ h
      · replace h := z_t h q9
        refine zg_iconst dd_159_57 kI_1 ?_
        refine zg_goto (tgt := 62) dd_159_58 (by decide) ?_
        refine zg_istore dd_159_62 (Nat.le_of_ble_eq_true rfl) (lv' := [(4, .inl (1 : Int32)), (3, .inl r5), (2, .inl r3), (0, .inr (.inr (some 0))), (1, .inl v1)]) rfl ?_
        refine zg_aload_n dd_159_64 rfl (j := 3) rfl ?_
        refine zg_iload_n dd_159_65 rfl (j := 2) rfl ?_
        refine zg_iload dd_159_66 (j := 0) rfl ?_
        refine zg_if_eq (tgt := 75) dd_159_68 (by decide) (fun q20 => absurd q20 (by decide)) (fun _ => ?_)
        refine zg_iload_n dd_159_71 rfl (j := 1) rfl ?_
        refine zg_goto (tgt := 79) dd_159_72 (by decide) ?_
        obtain ⟨r21, e22, h⟩ := z_bd h
        refine zg_invV_v (av := [.inl r3, .inl r5]) (st := []) (n := 2) dd_159_79 ca_161 zw_1219 zw_1221 zv_42 zMs_0 zcl_12 rfl (mt_fm_oneOf e22) rfl ⟨by decide +kernel, by decide⟩ (Nat.le_of_ble_eq_true rfl) ?_
        refine zg_aload_n dd_159_82 rfl (j := 3) rfl ?_
        refine zg_iload_n dd_159_83 rfl (j := 2) rfl ?_
        obtain ⟨r23, e24, h⟩ := z_bd h
        refine zg_invS_i (av := [.inl r3]) (st := [.inr (.inr (some 0))]) (n := 1) dd_159_84 ca_160 zw_1216 zw_1217 (mt_fm_second e24) rfl ⟨by decide +kernel, by decide⟩ (Nat.le_of_ble_eq_true rfl) ?_
        refine zg_iload dd_159_87 (j := 0) rfl ?_
        refine zg_if_eq (tgt := 99) dd_159_89 (by decide) (fun q25 => absurd q25 (by decide)) (fun _ => ?_)
        refine zg_iload_n dd_159_92 rfl (j := 1) rfl ?_
        obtain ⟨r26, e27, h⟩ := z_bd h
        refine zg_invS_i (av := [.inl r5]) (st := [.inl r23, .inr (.inr (some 0))]) (n := 1) dd_159_93 ca_160 zw_1216 zw_1217 (mt_fm_second e27) rfl ⟨by decide +kernel, by decide⟩ (Nat.le_of_ble_eq_true rfl) ?_
        refine zg_goto (tgt := 100) dd_159_96 (by decide) ?_
        obtain ⟨r28, e29, h⟩ := z_bd h
        refine zg_invV_v (av := [.inl r23, .inl r26]) (st := []) (n := 2) dd_159_100 ca_161 zw_1219 zw_1221 zv_42 zMs_0 zcl_12 rfl (mt_fm_oneOf e29) rfl ⟨by decide +kernel, by decide⟩ (Nat.le_of_ble_eq_true rfl) ?_
        refine zg_iinc dd_159_103 (j := 4) rfl (v := (v1 + (1 : Int32))) (by rw [kI_1]) (Nat.le_of_ble_eq_true rfl) (lv' := [(1, .inl (v1 + (1 : Int32))), (4, .inl (1 : Int32)), (3, .inl r5), (2, .inl r3), (0, .inr (.inr (some 0)))]) rfl ?_
        refine zg_goto (tgt := 23) dd_159_106 (by decide) ?_
        refine zg_sub [4, 0] rfl ?_
        exact ih _ _ h
set_option maxRecDepth 20000 in
theorem lt_fm_findCorners_L2 {res : zI} : ∀ (nf : Nat) (v1 : Int32) (I : zI), fm_findCorners_L2 nf v1 I = some res → zG 2 ym_159 0 0 none (zMs, zMr, res) zMs.length 2 [(0, .inr (.inr (some 0))), (1, .inl v1)] [] (zMs, zMr, I) 0 0 := by
  intro nf
  induction nf with
  | zero =>
    intro v1 I h
    have h2 : none = some res := h
    cases h2
  | succ nf ih =>
    intro v1 I h
    rw [fm_findCorners_L2] at h
    refine zg_iload_n dd_159_2 rfl (j := 1) rfl ?_
    refine zg_bipush dd_159_3 kB_32 ?_
    refine zg_icmp_ge (tgt := 21) dd_159_5 (by decide) (fun q1 => ?_) (fun q1 => ?_)
    · replace h := z_t h q1
      refine zg_iconst dd_159_21 kI_0 ?_
      refine zg_istore_n dd_159_22 rfl (Nat.le_of_ble_eq_true rfl) (lv' := [(1, .inl (0 : Int32)), (0, .inr (.inr (some 0)))]) rfl ?_
      refine zg_sub [1, 0] rfl ?_
      refine lt_fm_findCorners_L23  _ _ _ h
    · replace h := z_f h q1
      refine zg_aload_n dd_159_8 rfl (j := 0) rfl ?_
      refine zg_getR dd_159_9 zl_M_19 zMs_0 rfl zMr_0_4 ?_
      refine zg_iload_n dd_159_12 rfl (j := 1) rfl ?_
      refine zg_iload_n dd_159_13 rfl (j := 1) rfl ?_
      obtain ⟨g30, h⟩ := z_gd h
      refine zg_iast dd_159_14 zMs_4 g30 ?_
      refine zg_iinc dd_159_15 (j := 1) rfl (v := (v1 + (1 : Int32))) (by rw [kI_1]) (Nat.le_of_ble_eq_true rfl) (lv' := [(1, .inl (v1 + (1 : Int32))), (0, .inr (.inr (some 0)))]) rfl ?_
      refine zg_goto (tgt := 2) dd_159_18 (by decide) ?_
      refine zg_sub [1, 0] rfl ?_
      exact ih _ _ h
set_option maxRecDepth 20000 in
theorem mt_fm_findCorners {I : zI} {res : zI} (h : fm_findCorners I = some res) : zM 2 ym_159 [.inr (.inr (some 0))] (zMs, zMr, I) none (zMs, zMr, res) 0 0 := by
  refine zM_of (by decide) (Nat.le_of_ble_eq_true rfl) (lv := [(0, .inr (.inr (some 0)))]) rfl ?_
  rw [fm_findCorners] at h
  refine zg_iconst dd_159_0 kI_0 ?_
  refine zg_istore_n dd_159_1 rfl (Nat.le_of_ble_eq_true rfl) (lv' := [(1, .inl (0 : Int32)), (0, .inr (.inr (some 0)))]) rfl ?_
  refine zg_sub [1, 0] rfl ?_
  refine lt_fm_findCorners_L2  _ _ _ h
/-! TurnedLandModel.cornersNow[0] -/
def fm_cornersNow_L8 : Nat → Int32 → Int32 → zI → Option (Int32 × zI)
  | 0, _, _, _ => none
  | nf + 1, v1, v2, I =>
    if ((4 : Int32) * (I 1 (0 : Int32).toNatClampNeg)) ≤ v2 then
      some (v1, I)
    else
      z_guard (zb v2 32) <|
      if (I 4 v2.toNatClampNeg) = v2 then
        fm_cornersNow_L8 nf (v1 + (1 : Int32)) (v2 + (1 : Int32)) I
      else
        fm_cornersNow_L8 nf (v1 + (0 : Int32)) (v2 + (1 : Int32)) I
def fm_cornersNow (I : zI) : Option (Int32 × zI) :=
  (fm_findCorners I).bind fun r1 =>
  fm_cornersNow_L8
    100 (0 : Int32) (0 : Int32) r1
set_option maxRecDepth 20000 in
theorem lt_fm_cornersNow_L8 {res : (Int32 × zI)} : ∀ (nf : Nat) (v1 : Int32) (v2 : Int32) (I : zI), fm_cornersNow_L8 nf v1 v2 I = some res → zG 3 ym_158 0 0 (some (.inl res.1)) (zMs, zMr, res.2) zMs.length 8 [(0, .inr (.inr (some 0))), (1, .inl v1), (2, .inl v2)] [] (zMs, zMr, I) 0 0 := by
  intro nf
  induction nf with
  | zero =>
    intro v1 v2 I h
    have h2 : none = some res := h
    cases h2
  | succ nf ih =>
    intro v1 v2 I h
    rw [fm_cornersNow_L8] at h
    refine zg_iload_n dd_158_8 rfl (j := 2) rfl ?_
    refine zg_iconst dd_158_9 kI_4 ?_
    refine zg_aload_n dd_158_10 rfl (j := 0) rfl ?_
    refine zg_getR dd_158_11 zl_M_9 zMs_0 rfl zMr_0_0 ?_
    refine zg_iconst dd_158_14 kI_0 ?_
    refine zg_iald (w := (I 1 (0 : Int32).toNatClampNeg)) dd_158_15 zMs_1 (by decide) rfl ?_
    refine zg_imul dd_158_16 ?_
    refine zg_icmp_ge (tgt := 44) dd_158_17 (by decide) (fun q3 => ?_) (fun q3 => ?_)
    · replace h := z_t h q3
      refine zg_iload_n dd_158_44 rfl (j := 1) rfl ?_
      obtain rfl := Option.some.inj h
      exact zg_iret dd_158_45 rfl
    · replace h := z_f h q3
      refine zg_iload_n dd_158_20 rfl (j := 1) rfl ?_
      refine zg_aload_n dd_158_21 rfl (j := 0) rfl ?_
      refine zg_getR dd_158_22 zl_M_19 zMs_0 rfl zMr_0_4 ?_
      refine zg_iload_n dd_158_25 rfl (j := 2) rfl ?_
      obtain ⟨g4, h⟩ := z_gd h
      refine zg_iald (w := (I 4 v2.toNatClampNeg)) dd_158_26 zMs_4 g4 rfl ?_
      refine zg_iload_n dd_158_27 rfl (j := 2) rfl ?_
      refine zg_icmp_ne (tgt := 35) dd_158_28 (by decide) (fun q5 => ?_) (fun q5 => ?_)
      · replace h := z_f h q5
        refine zg_iconst dd_158_35 kI_0 ?_
        refine zg_iadd dd_158_36 ?_
        refine zg_istore_n dd_158_37 rfl (Nat.le_of_ble_eq_true rfl) (lv' := [(1, .inl (v1 + (0 : Int32))), (0, .inr (.inr (some 0))), (2, .inl v2)]) rfl ?_
        refine zg_iinc dd_158_38 (j := 2) rfl (v := (v2 + (1 : Int32))) (by rw [kI_1]) (Nat.le_of_ble_eq_true rfl) (lv' := [(2, .inl (v2 + (1 : Int32))), (1, .inl (v1 + (0 : Int32))), (0, .inr (.inr (some 0)))]) rfl ?_
        refine zg_goto (tgt := 8) dd_158_41 (by decide) ?_
        refine zg_sub [2, 1, 0] rfl ?_
        exact ih _ _ _ h
      · replace h := z_t h q5
        refine zg_iconst dd_158_31 kI_1 ?_
        refine zg_goto (tgt := 36) dd_158_32 (by decide) ?_
        refine zg_iadd dd_158_36 ?_
        refine zg_istore_n dd_158_37 rfl (Nat.le_of_ble_eq_true rfl) (lv' := [(1, .inl (v1 + (1 : Int32))), (0, .inr (.inr (some 0))), (2, .inl v2)]) rfl ?_
        refine zg_iinc dd_158_38 (j := 2) rfl (v := (v2 + (1 : Int32))) (by rw [kI_1]) (Nat.le_of_ble_eq_true rfl) (lv' := [(2, .inl (v2 + (1 : Int32))), (1, .inl (v1 + (1 : Int32))), (0, .inr (.inr (some 0)))]) rfl ?_
        refine zg_goto (tgt := 8) dd_158_41 (by decide) ?_
        refine zg_sub [2, 1, 0] rfl ?_
        exact ih _ _ _ h
set_option maxRecDepth 20000 in
theorem mt_fm_cornersNow {I : zI} {res : (Int32 × zI)} (h : fm_cornersNow I = some res) : zM 3 ym_158 [.inr (.inr (some 0))] (zMs, zMr, I) (some (.inl res.1)) (zMs, zMr, res.2) 0 0 := by
  refine zM_of (by decide) (Nat.le_of_ble_eq_true rfl) (lv := [(0, .inr (.inr (some 0)))]) rfl ?_
  rw [fm_cornersNow] at h
  refine zg_aload_n dd_158_0 rfl (j := 0) rfl ?_
  obtain ⟨r1, e2, h⟩ := z_bd h
  refine zg_invV_v (av := []) (st := []) (n := 0) dd_158_1 ca_159 zw_1212 zw_1214 zv_41 zMs_0 zcl_12 rfl (mt_fm_findCorners e2) rfl ⟨by decide +kernel, by decide⟩ (Nat.le_of_ble_eq_true rfl) ?_
  refine zg_iconst dd_158_4 kI_0 ?_
  refine zg_istore_n dd_158_5 rfl (Nat.le_of_ble_eq_true rfl) (lv' := [(1, .inl (0 : Int32)), (0, .inr (.inr (some 0)))]) rfl ?_
  refine zg_iconst dd_158_6 kI_0 ?_
  refine zg_istore_n dd_158_7 rfl (Nat.le_of_ble_eq_true rfl) (lv' := [(2, .inl (0 : Int32)), (1, .inl (0 : Int32)), (0, .inr (.inr (some 0)))]) rfl ?_
  refine zg_sub [2, 1, 0] rfl ?_
  refine lt_fm_cornersNow_L8  _ _ _ _ h
/-! TurnedLandModel.has[None, None] -/
def fm_has (I : zI) (a0 : Int32) (a1 : Int32) : Option Int32 :=
  if ((a0 >>> (a1 &&& 31)) &&& (1 : Int32)) = (1 : Int32) then
    some (1 : Int32)
  else
    some (0 : Int32)
set_option maxRecDepth 20000 in
theorem mt_fm_has {I : zI} {a0 : Int32} {a1 : Int32} {res : Int32} (h : fm_has I a0 a1 = some res) : zM 1 ym_165 [.inl a0, .inl a1] (zMs, zMr, I) (some (.inl res)) (zMs, zMr, I) 0 0 := by
  refine zM_of (by decide) (Nat.le_of_ble_eq_true rfl) (lv := [(0, .inl a0), (1, .inl a1)]) rfl ?_
  rw [fm_has] at h
  refine zg_iload_n dd_165_0 rfl (j := 0) rfl ?_
  refine zg_iload_n dd_165_1 rfl (j := 1) rfl ?_
  refine zg_ishr dd_165_2 ?_
  refine zg_iconst dd_165_3 kI_1 ?_
  refine zg_iand dd_165_4 ?_
  refine zg_iconst dd_165_5 kI_1 ?_
  refine zg_icmp_ne (tgt := 13) dd_165_6 (by decide) (fun q1 => ?_) (fun q1 => ?_)
  · replace h := z_f h q1
    refine zg_iconst dd_165_13 kI_0 ?_
    obtain rfl := Option.some.inj h
    exact zg_zret dd_165_14 rfl zSt_b0.1
  · replace h := z_t h q1
    refine zg_iconst dd_165_9 kI_1 ?_
    refine zg_goto (tgt := 14) dd_165_10 (by decide) ?_
    obtain rfl := Option.some.inj h
    exact zg_zret dd_165_14 rfl zSt_b1.1
/-! TurnedLandModel.crossed[0, None, None] -/
def fm_crossed_L37 (I : zI) : Nat → Int32 → Int32 → Int32 → Int32 → Int32 → Int32 → Option Int32
  | 0, _, _, _, _, _, _ => none
  | nf + 1, v1, v3, v4, v5, v6, v7 =>
    if (2 : Int32) ≤ v7 then
      some v6
    else
      (fm_has I v1 (v3 + v7)).bind fun r8 =>
      if r8 = 0 then
        (fm_has I v1 (v4 + v7)).bind fun r11 =>
        if r11 = 0 then
          fm_crossed_L37 I nf v1 v3 v4 v5 ((v6 ||| (0 : Int32)) ||| (0 : Int32)) (v7 + (1 : Int32))
        else
          fm_crossed_L37 I nf v1 v3 v4 v5 ((v6 ||| (0 : Int32)) ||| ((1 : Int32) <<< ((v3 + (v7 ^^^ v5)) &&& 31))) (v7 + (1 : Int32))
      else
        (fm_has I v1 (v4 + v7)).bind fun r14 =>
        if r14 = 0 then
          fm_crossed_L37 I nf v1 v3 v4 v5 ((v6 ||| ((1 : Int32) <<< ((v4 + (v7 ^^^ v5)) &&& 31))) ||| (0 : Int32)) (v7 + (1 : Int32))
        else
          fm_crossed_L37 I nf v1 v3 v4 v5 ((v6 ||| ((1 : Int32) <<< ((v4 + (v7 ^^^ v5)) &&& 31))) ||| ((1 : Int32) <<< ((v3 + (v7 ^^^ v5)) &&& 31))) (v7 + (1 : Int32))
def fm_crossed (I : zI) (a1 : Int32) (a2 : Int32) : Option Int32 :=
  (fm_joinOf I a2 (0 : Int32)).bind fun r1 =>
  (fm_joinOf I a2 (1 : Int32)).bind fun r3 =>
  (fm_joinOf I a2 (2 : Int32)).bind fun r5 =>
  fm_crossed_L37 I
    100 a1 ((2 : Int32) * (r1 / (4 : Int32))) ((2 : Int32) * (r3 / (4 : Int32))) r5 (0 : Int32) (0 : Int32)
set_option maxRecDepth 20000 in
theorem lt_fm_crossed_L37 {res : Int32} {I : zI} : ∀ (nf : Nat) (v1 : Int32) (v3 : Int32) (v4 : Int32) (v5 : Int32) (v6 : Int32) (v7 : Int32), fm_crossed_L37 I nf v1 v3 v4 v5 v6 v7 = some res → zG 2 ym_164 0 0 (some (.inl res)) (zMs, zMr, I) zMs.length 37 [(1, .inl v1), (3, .inl v3), (4, .inl v4), (5, .inl v5), (6, .inl v6), (7, .inl v7)] [] (zMs, zMr, I) 0 0 := by
  intro nf
  induction nf with
  | zero =>
    intro v1 v3 v4 v5 v6 v7 h
    have h2 : none = some res := h
    cases h2
  | succ nf ih =>
    intro v1 v3 v4 v5 v6 v7 h
    rw [fm_crossed_L37] at h
    refine zg_iload dd_164_37 (j := 5) rfl ?_
    refine zg_iconst dd_164_39 kI_2 ?_
    refine zg_icmp_ge (tgt := 109) dd_164_40 (by decide) (fun q7 => ?_) (fun q7 => ?_)
    · replace h := z_t h q7
      refine zg_iload dd_164_109 (j := 4) rfl ?_
      obtain rfl := Option.some.inj h
      exact zg_iret dd_164_111 rfl
    · replace h := z_f h q7
      refine zg_iload dd_164_43 (j := 4) rfl ?_
      refine zg_iload_n dd_164_45 rfl (j := 0) rfl ?_
      refine zg_iload_n dd_164_46 rfl (j := 1) rfl ?_
      refine zg_iload dd_164_47 (j := 5) rfl ?_
      refine zg_iadd dd_164_49 ?_
      obtain ⟨r8, e9, h⟩ := z_bd h
      refine zg_invS_i (av := [.inl v1, .inl (v3 + v7)]) (st := [.inl v6]) (n := 2) dd_164_50 ca_165 zw_1237 zw_1238 (mt_fm_has e9) rfl ⟨by decide +kernel, by decide⟩ (Nat.le_of_ble_eq_true rfl) ?_
      refine zg_if_eq (tgt := 69) dd_164_53 (by decide) (fun q10 => ?_) (fun q10 => ?_)
      · replace h := z_t h q10
        refine zg_iconst dd_164_69 kI_0 ?_
        refine zg_ior dd_164_70 ?_
        refine zg_istore dd_164_71 (Nat.le_of_ble_eq_true rfl) (lv' := [(6, .inl (v6 ||| (0 : Int32))), (1, .inl v1), (3, .inl v3), (4, .inl v4), (5, .inl v5), (7, .inl v7)]) rfl ?_
        refine zg_iload dd_164_73 (j := 0) rfl ?_
        refine zg_iload_n dd_164_75 rfl (j := 1) rfl ?_
        refine zg_iload dd_164_76 (j := 3) rfl ?_
        refine zg_iload dd_164_78 (j := 5) rfl ?_
        refine zg_iadd dd_164_80 ?_
        obtain ⟨r11, e12, h⟩ := z_bd h
        refine zg_invS_i (av := [.inl v1, .inl (v4 + v7)]) (st := [.inl (v6 ||| (0 : Int32))]) (n := 2) dd_164_81 ca_165 zw_1237 zw_1238 (mt_fm_has e12) rfl ⟨by decide +kernel, by decide⟩ (Nat.le_of_ble_eq_true rfl) ?_
        refine zg_if_eq (tgt := 99) dd_164_84 (by decide) (fun q13 => ?_) (fun q13 => ?_)
        · replace h := z_t h q13
          refine zg_iconst dd_164_99 kI_0 ?_
          refine zg_ior dd_164_100 ?_
          refine zg_istore dd_164_101 (Nat.le_of_ble_eq_true rfl) (lv' := [(6, .inl ((v6 ||| (0 : Int32)) ||| (0 : Int32))), (1, .inl v1), (3, .inl v3), (4, .inl v4), (5, .inl v5), (7, .inl v7)]) rfl ?_
          refine zg_iinc dd_164_103 (j := 5) rfl (v := (v7 + (1 : Int32))) (by rw [kI_1]) (Nat.le_of_ble_eq_true rfl) (lv' := [(7, .inl (v7 + (1 : Int32))), (6, .inl ((v6 ||| (0 : Int32)) ||| (0 : Int32))), (1, .inl v1), (3, .inl v3), (4, .inl v4), (5, .inl v5)]) rfl ?_
          refine zg_goto (tgt := 37) dd_164_106 (by decide) ?_
          refine zg_sub [2, 3, 4, 5, 1, 0] rfl ?_
          exact ih _ _ _ _ _ _ h
        · replace h := z_f h q13
          refine zg_iconst dd_164_87 kI_1 ?_
          refine zg_iload_n dd_164_88 rfl (j := 2) rfl ?_
          refine zg_iload dd_164_89 (j := 5) rfl ?_
          refine zg_iload dd_164_91 (j := 4) rfl ?_
          refine zg_ixor dd_164_93 ?_
          refine zg_iadd dd_164_94 ?_
          refine zg_ishl dd_164_95 ?_
          refine zg_goto (tgt := 100) dd_164_96 (by decide) ?_
          refine zg_ior dd_164_100 ?_
          refine zg_istore dd_164_101 (Nat.le_of_ble_eq_true rfl) (lv' := [(6, .inl ((v6 ||| (0 : Int32)) ||| ((1 : Int32) <<< ((v3 + (v7 ^^^ v5)) &&& 31)))), (1, .inl v1), (3, .inl v3), (4, .inl v4), (5, .inl v5), (7, .inl v7)]) rfl ?_
          refine zg_iinc dd_164_103 (j := 5) rfl (v := (v7 + (1 : Int32))) (by rw [kI_1]) (Nat.le_of_ble_eq_true rfl) (lv' := [(7, .inl (v7 + (1 : Int32))), (6, .inl ((v6 ||| (0 : Int32)) ||| ((1 : Int32) <<< ((v3 + (v7 ^^^ v5)) &&& 31)))), (1, .inl v1), (3, .inl v3), (4, .inl v4), (5, .inl v5)]) rfl ?_
          refine zg_goto (tgt := 37) dd_164_106 (by decide) ?_
          refine zg_sub [2, 3, 4, 5, 1, 0] rfl ?_
          exact ih _ _ _ _ _ _ h
      · replace h := z_f h q10
        refine zg_iconst dd_164_56 kI_1 ?_
        refine zg_iload dd_164_57 (j := 2) rfl ?_
        refine zg_iload dd_164_59 (j := 5) rfl ?_
        refine zg_iload dd_164_61 (j := 3) rfl ?_
        refine zg_ixor dd_164_63 ?_
        refine zg_iadd dd_164_64 ?_
        refine zg_ishl dd_164_65 ?_
        refine zg_goto (tgt := 70) dd_164_66 (by decide) ?_
        refine zg_ior dd_164_70 ?_
        refine zg_istore dd_164_71 (Nat.le_of_ble_eq_true rfl) (lv' := [(6, .inl (v6 ||| ((1 : Int32) <<< ((v4 + (v7 ^^^ v5)) &&& 31)))), (1, .inl v1), (3, .inl v3), (4, .inl v4), (5, .inl v5), (7, .inl v7)]) rfl ?_
        refine zg_iload dd_164_73 (j := 0) rfl ?_
        refine zg_iload_n dd_164_75 rfl (j := 1) rfl ?_
        refine zg_iload dd_164_76 (j := 3) rfl ?_
        refine zg_iload dd_164_78 (j := 5) rfl ?_
        refine zg_iadd dd_164_80 ?_
        obtain ⟨r14, e15, h⟩ := z_bd h
        refine zg_invS_i (av := [.inl v1, .inl (v4 + v7)]) (st := [.inl (v6 ||| ((1 : Int32) <<< ((v4 + (v7 ^^^ v5)) &&& 31)))]) (n := 2) dd_164_81 ca_165 zw_1237 zw_1238 (mt_fm_has e15) rfl ⟨by decide +kernel, by decide⟩ (Nat.le_of_ble_eq_true rfl) ?_
        refine zg_if_eq (tgt := 99) dd_164_84 (by decide) (fun q16 => ?_) (fun q16 => ?_)
        · replace h := z_t h q16
          refine zg_iconst dd_164_99 kI_0 ?_
          refine zg_ior dd_164_100 ?_
          refine zg_istore dd_164_101 (Nat.le_of_ble_eq_true rfl) (lv' := [(6, .inl ((v6 ||| ((1 : Int32) <<< ((v4 + (v7 ^^^ v5)) &&& 31))) ||| (0 : Int32))), (1, .inl v1), (3, .inl v3), (4, .inl v4), (5, .inl v5), (7, .inl v7)]) rfl ?_
          refine zg_iinc dd_164_103 (j := 5) rfl (v := (v7 + (1 : Int32))) (by rw [kI_1]) (Nat.le_of_ble_eq_true rfl) (lv' := [(7, .inl (v7 + (1 : Int32))), (6, .inl ((v6 ||| ((1 : Int32) <<< ((v4 + (v7 ^^^ v5)) &&& 31))) ||| (0 : Int32))), (1, .inl v1), (3, .inl v3), (4, .inl v4), (5, .inl v5)]) rfl ?_
          refine zg_goto (tgt := 37) dd_164_106 (by decide) ?_
          refine zg_sub [2, 3, 4, 5, 1, 0] rfl ?_
          exact ih _ _ _ _ _ _ h
        · replace h := z_f h q16
          refine zg_iconst dd_164_87 kI_1 ?_
          refine zg_iload_n dd_164_88 rfl (j := 2) rfl ?_
          refine zg_iload dd_164_89 (j := 5) rfl ?_
          refine zg_iload dd_164_91 (j := 4) rfl ?_
          refine zg_ixor dd_164_93 ?_
          refine zg_iadd dd_164_94 ?_
          refine zg_ishl dd_164_95 ?_
          refine zg_goto (tgt := 100) dd_164_96 (by decide) ?_
          refine zg_ior dd_164_100 ?_
          refine zg_istore dd_164_101 (Nat.le_of_ble_eq_true rfl) (lv' := [(6, .inl ((v6 ||| ((1 : Int32) <<< ((v4 + (v7 ^^^ v5)) &&& 31))) ||| ((1 : Int32) <<< ((v3 + (v7 ^^^ v5)) &&& 31)))), (1, .inl v1), (3, .inl v3), (4, .inl v4), (5, .inl v5), (7, .inl v7)]) rfl ?_
          refine zg_iinc dd_164_103 (j := 5) rfl (v := (v7 + (1 : Int32))) (by rw [kI_1]) (Nat.le_of_ble_eq_true rfl) (lv' := [(7, .inl (v7 + (1 : Int32))), (6, .inl ((v6 ||| ((1 : Int32) <<< ((v4 + (v7 ^^^ v5)) &&& 31))) ||| ((1 : Int32) <<< ((v3 + (v7 ^^^ v5)) &&& 31)))), (1, .inl v1), (3, .inl v3), (4, .inl v4), (5, .inl v5)]) rfl ?_
          refine zg_goto (tgt := 37) dd_164_106 (by decide) ?_
          refine zg_sub [2, 3, 4, 5, 1, 0] rfl ?_
          exact ih _ _ _ _ _ _ h
set_option maxRecDepth 20000 in
theorem mt_fm_crossed {I : zI} {a1 : Int32} {a2 : Int32} {res : Int32} (h : fm_crossed I a1 a2 = some res) : zM 2 ym_164 [.inr (.inr (some 0)), .inl a1, .inl a2] (zMs, zMr, I) (some (.inl res)) (zMs, zMr, I) 0 0 := by
  refine zM_of (by decide) (Nat.le_of_ble_eq_true rfl) (lv := [(0, .inr (.inr (some 0))), (1, .inl a1), (2, .inl a2)]) rfl ?_
  rw [fm_crossed] at h
  refine zg_iconst dd_164_0 kI_2 ?_
  refine zg_aload_n dd_164_1 rfl (j := 0) rfl ?_
  refine zg_iload_n dd_164_2 rfl (j := 2) rfl ?_
  refine zg_iconst dd_164_3 kI_0 ?_
  obtain ⟨r1, e2, h⟩ := z_bd h
  refine zg_invV_i (av := [.inl a2, .inl (0 : Int32)]) (st := [.inl (2 : Int32)]) (n := 2) dd_164_4 ca_150 zw_1174 zw_1176 zv_37 zMs_0 zcl_12 rfl (mt_fm_joinOf e2) rfl ⟨by decide +kernel, by decide⟩ (Nat.le_of_ble_eq_true rfl) ?_
  refine zg_iconst dd_164_7 kI_4 ?_
  refine zg_idiv dd_164_8 (by decide) ?_
  refine zg_imul dd_164_9 ?_
  refine zg_istore_n dd_164_10 rfl (Nat.le_of_ble_eq_true rfl) (lv' := [(3, .inl ((2 : Int32) * (r1 / (4 : Int32)))), (0, .inr (.inr (some 0))), (1, .inl a1), (2, .inl a2)]) rfl ?_
  refine zg_iconst dd_164_11 kI_2 ?_
  refine zg_aload_n dd_164_12 rfl (j := 1) rfl ?_
  refine zg_iload_n dd_164_13 rfl (j := 3) rfl ?_
  refine zg_iconst dd_164_14 kI_1 ?_
  obtain ⟨r3, e4, h⟩ := z_bd h
  refine zg_invV_i (av := [.inl a2, .inl (1 : Int32)]) (st := [.inl (2 : Int32)]) (n := 2) dd_164_15 ca_150 zw_1174 zw_1176 zv_37 zMs_0 zcl_12 rfl (mt_fm_joinOf e4) rfl ⟨by decide +kernel, by decide⟩ (Nat.le_of_ble_eq_true rfl) ?_
  refine zg_iconst dd_164_18 kI_4 ?_
  refine zg_idiv dd_164_19 (by decide) ?_
  refine zg_imul dd_164_20 ?_
  refine zg_istore dd_164_21 (Nat.le_of_ble_eq_true rfl) (lv' := [(4, .inl ((2 : Int32) * (r3 / (4 : Int32)))), (3, .inl ((2 : Int32) * (r1 / (4 : Int32)))), (0, .inr (.inr (some 0))), (1, .inl a1), (2, .inl a2)]) rfl ?_
  refine zg_aload_n dd_164_23 rfl (j := 2) rfl ?_
  refine zg_iload_n dd_164_24 rfl (j := 4) rfl ?_
  refine zg_iconst dd_164_25 kI_2 ?_
  obtain ⟨r5, e6, h⟩ := z_bd h
  refine zg_invV_i (av := [.inl a2, .inl (2 : Int32)]) (st := []) (n := 2) dd_164_26 ca_150 zw_1174 zw_1176 zv_37 zMs_0 zcl_12 rfl (mt_fm_joinOf e6) rfl ⟨by decide +kernel, by decide⟩ (Nat.le_of_ble_eq_true rfl) ?_
  refine zg_istore dd_164_29 (Nat.le_of_ble_eq_true rfl) (lv' := [(5, .inl r5), (4, .inl ((2 : Int32) * (r3 / (4 : Int32)))), (3, .inl ((2 : Int32) * (r1 / (4 : Int32)))), (0, .inr (.inr (some 0))), (1, .inl a1), (2, .inl a2)]) rfl ?_
  refine zg_iconst dd_164_31 kI_0 ?_
  refine zg_istore dd_164_32 (Nat.le_of_ble_eq_true rfl) (lv' := [(6, .inl (0 : Int32)), (5, .inl r5), (4, .inl ((2 : Int32) * (r3 / (4 : Int32)))), (3, .inl ((2 : Int32) * (r1 / (4 : Int32)))), (0, .inr (.inr (some 0))), (1, .inl a1), (2, .inl a2)]) rfl ?_
  refine zg_iconst dd_164_34 kI_0 ?_
  refine zg_istore dd_164_35 (Nat.le_of_ble_eq_true rfl) (lv' := [(7, .inl (0 : Int32)), (6, .inl (0 : Int32)), (5, .inl r5), (4, .inl ((2 : Int32) * (r3 / (4 : Int32)))), (3, .inl ((2 : Int32) * (r1 / (4 : Int32)))), (0, .inr (.inr (some 0))), (1, .inl a1), (2, .inl a2)]) rfl ?_
  refine zg_sub [6, 4, 3, 2, 1, 0] rfl ?_
  refine lt_fm_crossed_L37  _ _ _ _ _ _ _ h
/-! TurnedLandModel.reachedBut[0, None, None, None] -/
def fm_reachedBut_L22 (I : zI) (k64 : Int32 → Int32 → Int32 → Int32 → Option Int32) : Nat → Int32 → Int32 → Int32 → Int32 → Int32 → Option Int32
  | 0, _, _, _, _, _ => none
  | nf + 1, v2, v3, v4, v5, v6 =>
    if (I 1 (1 : Int32).toNatClampNeg) ≤ v6 then
      k64 v2 v3 v4 v5
    else
      if v6 = v2 then
        fm_reachedBut_L22 I k64 nf v2 v3 v4 v5 (v6 + (1 : Int32))
      else
        if v6 = v3 then
          fm_reachedBut_L22 I k64 nf v2 v3 v4 v5 (v6 + (1 : Int32))
        else
          (fm_crossed I v5 v6).bind fun r5 =>
          fm_reachedBut_L22 I k64 nf v2 v3 (v4 ||| r5) v5 (v6 + (1 : Int32))
def fm_reachedBut_L8 (I : zI) : Nat → Int32 → Int32 → Int32 → Int32 → Option Int32
  | 0, _, _, _, _ => none
  | nf + 1, v2, v3, v4, v5 =>
    if v4 = v5 then
      some v4
    else
      fm_reachedBut_L22 I
        (fun (u7 : Int32) (u8 : Int32) (u9 : Int32) (u10 : Int32) =>
          fm_reachedBut_L8 I nf u7 u8 u9 u10
        )
        100 v2 v3 v4 v4 (0 : Int32)
def fm_reachedBut (I : zI) (a1 : Int32) (a2 : Int32) (a3 : Int32) : Option Int32 :=
  fm_reachedBut_L8 I
    100 a2 a3 ((1 : Int32) <<< (a1 &&& 31)) (0 : Int32)
set_option maxRecDepth 20000 in
theorem lt_fm_reachedBut_L22 {res : Int32} {I : zI} {k64 : Int32 → Int32 → Int32 → Int32 → Option Int32} (hk64 : ∀ (v2 : Int32) (v3 : Int32) (v4 : Int32) (v5 : Int32), k64 v2 v3 v4 v5 = some res → zG 3 ym_163 0 0 (some (.inl res)) (zMs, zMr, I) zMs.length 64 [(0, .inr (.inr (some 0))), (2, .inl v2), (3, .inl v3), (4, .inl v4), (5, .inl v5)] [] (zMs, zMr, I) 0 0) : ∀ (nf : Nat) (v2 : Int32) (v3 : Int32) (v4 : Int32) (v5 : Int32) (v6 : Int32), fm_reachedBut_L22 I k64 nf v2 v3 v4 v5 v6 = some res → zG 3 ym_163 0 0 (some (.inl res)) (zMs, zMr, I) zMs.length 22 [(0, .inr (.inr (some 0))), (2, .inl v2), (3, .inl v3), (4, .inl v4), (5, .inl v5), (6, .inl v6)] [] (zMs, zMr, I) 0 0 := by
  intro nf
  induction nf with
  | zero =>
    intro v2 v3 v4 v5 v6 h
    have h2 : none = some res := h
    cases h2
  | succ nf ih =>
    intro v2 v3 v4 v5 v6 h
    rw [fm_reachedBut_L22] at h
    refine zg_iload dd_163_22 (j := 5) rfl ?_
    refine zg_aload_n dd_163_24 rfl (j := 0) rfl ?_
    refine zg_getR dd_163_25 zl_M_9 zMs_0 rfl zMr_0_0 ?_
    refine zg_iconst dd_163_28 kI_1 ?_
    refine zg_iald (w := (I 1 (1 : Int32).toNatClampNeg)) dd_163_29 zMs_1 (by decide) rfl ?_
    refine zg_icmp_ge (tgt := 64) dd_163_30 (by decide) (fun q2 => ?_) (fun q2 => ?_)
    · replace h := z_t h q2
      refine zg_sub [0, 1, 2, 3, 4] rfl ?_
      exact hk64 _ _ _ _ h
    · replace h := z_f h q2
      refine zg_iload dd_163_33 (j := 5) rfl ?_
      refine zg_iload_n dd_163_35 rfl (j := 1) rfl ?_
      refine zg_icmp_eq (tgt := 58) dd_163_36 (by decide) (fun q3 => ?_) (fun q3 => ?_)
      · replace h := z_t h q3
        refine zg_iinc dd_163_58 (j := 5) rfl (v := (v6 + (1 : Int32))) (by rw [kI_1]) (Nat.le_of_ble_eq_true rfl) (lv' := [(6, .inl (v6 + (1 : Int32))), (0, .inr (.inr (some 0))), (2, .inl v2), (3, .inl v3), (4, .inl v4), (5, .inl v5)]) rfl ?_
        refine zg_goto (tgt := 22) dd_163_61 (by decide) ?_
        refine zg_sub [1, 2, 3, 4, 5, 0] rfl ?_
        exact ih _ _ _ _ _ h
      · replace h := z_f h q3
        refine zg_iload dd_163_39 (j := 5) rfl ?_
        refine zg_iload_n dd_163_41 rfl (j := 2) rfl ?_
        refine zg_icmp_eq (tgt := 58) dd_163_42 (by decide) (fun q4 => ?_) (fun q4 => ?_)
        · replace h := z_t h q4
          refine zg_iinc dd_163_58 (j := 5) rfl (v := (v6 + (1 : Int32))) (by rw [kI_1]) (Nat.le_of_ble_eq_true rfl) (lv' := [(6, .inl (v6 + (1 : Int32))), (0, .inr (.inr (some 0))), (2, .inl v2), (3, .inl v3), (4, .inl v4), (5, .inl v5)]) rfl ?_
          refine zg_goto (tgt := 22) dd_163_61 (by decide) ?_
          refine zg_sub [1, 2, 3, 4, 5, 0] rfl ?_
          exact ih _ _ _ _ _ h
        · replace h := z_f h q4
          refine zg_iload dd_163_45 (j := 3) rfl ?_
          refine zg_aload_n dd_163_47 rfl (j := 0) rfl ?_
          refine zg_iload dd_163_48 (j := 4) rfl ?_
          refine zg_iload dd_163_50 (j := 5) rfl ?_
          obtain ⟨r5, e6, h⟩ := z_bd h
          refine zg_invV_i (av := [.inl v5, .inl v6]) (st := [.inl v4]) (n := 2) dd_163_52 ca_164 zw_1233 zw_1235 zv_45 zMs_0 zcl_12 rfl (mt_fm_crossed e6) rfl ⟨by decide +kernel, by decide⟩ (Nat.le_of_ble_eq_true rfl) ?_
          refine zg_ior dd_163_55 ?_
          refine zg_istore dd_163_56 (Nat.le_of_ble_eq_true rfl) (lv' := [(4, .inl (v4 ||| r5)), (0, .inr (.inr (some 0))), (2, .inl v2), (3, .inl v3), (5, .inl v5), (6, .inl v6)]) rfl ?_
          refine zg_iinc dd_163_58 (j := 5) rfl (v := (v6 + (1 : Int32))) (by rw [kI_1]) (Nat.le_of_ble_eq_true rfl) (lv' := [(6, .inl (v6 + (1 : Int32))), (4, .inl (v4 ||| r5)), (0, .inr (.inr (some 0))), (2, .inl v2), (3, .inl v3), (5, .inl v5)]) rfl ?_
          refine zg_goto (tgt := 22) dd_163_61 (by decide) ?_
          refine zg_sub [2, 3, 4, 1, 5, 0] rfl ?_
          exact ih _ _ _ _ _ h
set_option maxRecDepth 20000 in
theorem lt_fm_reachedBut_L8 {res : Int32} {I : zI} : ∀ (nf : Nat) (v2 : Int32) (v3 : Int32) (v4 : Int32) (v5 : Int32), fm_reachedBut_L8 I nf v2 v3 v4 v5 = some res → zG 3 ym_163 0 0 (some (.inl res)) (zMs, zMr, I) zMs.length 8 [(0, .inr (.inr (some 0))), (2, .inl v2), (3, .inl v3), (4, .inl v4), (5, .inl v5)] [] (zMs, zMr, I) 0 0 := by
  intro nf
  induction nf with
  | zero =>
    intro v2 v3 v4 v5 h
    have h2 : none = some res := h
    cases h2
  | succ nf ih =>
    intro v2 v3 v4 v5 h
    rw [fm_reachedBut_L8] at h
    refine zg_iload dd_163_8 (j := 3) rfl ?_
    refine zg_iload dd_163_10 (j := 4) rfl ?_
    refine zg_icmp_eq (tgt := 67) dd_163_12 (by decide) (fun q1 => ?_) (fun q1 => ?_)
    · replace h := z_t h q1
      refine zg_iload dd_163_67 (j := 3) rfl ?_
      obtain rfl := Option.some.inj h
      exact zg_iret dd_163_69 rfl
    · replace h := z_f h q1
      refine zg_iload dd_163_15 (j := 3) rfl ?_
      refine zg_istore dd_163_17 (Nat.le_of_ble_eq_true rfl) (lv' := [(5, .inl v4), (0, .inr (.inr (some 0))), (2, .inl v2), (3, .inl v3), (4, .inl v4)]) rfl ?_
      refine zg_iconst dd_163_19 kI_0 ?_
      refine zg_istore dd_163_20 (Nat.le_of_ble_eq_true rfl) (lv' := [(6, .inl (0 : Int32)), (5, .inl v4), (0, .inr (.inr (some 0))), (2, .inl v2), (3, .inl v3), (4, .inl v4)]) rfl ?_
      refine zg_sub [2, 3, 4, 5, 1, 0] rfl ?_
      refine lt_fm_reachedBut_L22 ?_ _ _ _ _ _ _ h
      · intro u7 u8 u9 u10 h
        refine zg_goto (tgt := 8) dd_163_64 (by decide) ?_
        refine zg_sub [0, 1, 2, 3, 4] rfl ?_
        exact ih _ _ _ _ h
set_option maxRecDepth 20000 in
theorem mt_fm_reachedBut {I : zI} {a1 : Int32} {a2 : Int32} {a3 : Int32} {res : Int32} (h : fm_reachedBut I a1 a2 a3 = some res) : zM 3 ym_163 [.inr (.inr (some 0)), .inl a1, .inl a2, .inl a3] (zMs, zMr, I) (some (.inl res)) (zMs, zMr, I) 0 0 := by
  refine zM_of (by decide) (Nat.le_of_ble_eq_true rfl) (lv := [(0, .inr (.inr (some 0))), (1, .inl a1), (2, .inl a2), (3, .inl a3)]) rfl ?_
  rw [fm_reachedBut] at h
  refine zg_iconst dd_163_0 kI_1 ?_
  refine zg_iload_n dd_163_1 rfl (j := 1) rfl ?_
  refine zg_ishl dd_163_2 ?_
  refine zg_istore dd_163_3 (Nat.le_of_ble_eq_true rfl) (lv' := [(4, .inl ((1 : Int32) <<< (a1 &&& 31))), (0, .inr (.inr (some 0))), (1, .inl a1), (2, .inl a2), (3, .inl a3)]) rfl ?_
  refine zg_iconst dd_163_5 kI_0 ?_
  refine zg_istore dd_163_6 (Nat.le_of_ble_eq_true rfl) (lv' := [(5, .inl (0 : Int32)), (4, .inl ((1 : Int32) <<< (a1 &&& 31))), (0, .inr (.inr (some 0))), (1, .inl a1), (2, .inl a2), (3, .inl a3)]) rfl ?_
  refine zg_sub [2, 4, 5, 1, 0] rfl ?_
  refine lt_fm_reachedBut_L8  _ _ _ _ _ h
/-! TurnedLandModel.parts[0] -/
def fm_parts_L30 (I : zI) (k78 : Int32 → Int32 → Int32 → Option Int32) : Nat → Int32 → Int32 → Int32 → Int32 → Int32 → Option Int32
  | 0, _, _, _, _, _ => none
  | nf + 1, v1, v2, v3, v4, v5 =>
    if v2 ≤ v5 then
      k78 v1 v2 v4
    else
      if v4 = 0 then
        fm_parts_L30 I k78 nf v1 v2 v3 (0 : Int32) (v5 + (1 : Int32))
      else
        (fm_has I v3 ((2 : Int32) * v5)).bind fun r6 =>
        if r6 = 0 then
          (fm_has I v3 (((2 : Int32) * v5) + (1 : Int32))).bind fun r9 =>
          if r9 = 0 then
            fm_parts_L30 I k78 nf v1 v2 v3 (1 : Int32) (v5 + (1 : Int32))
          else
            fm_parts_L30 I k78 nf v1 v2 v3 (0 : Int32) (v5 + (1 : Int32))
        else
          fm_parts_L30 I k78 nf v1 v2 v3 (0 : Int32) (v5 + (1 : Int32))
def fm_parts_L4 (I : zI) : Nat → Int32 → Int32 → Option Int32
  | 0, _, _ => none
  | nf + 1, v1, v2 =>
    if (I 1 (0 : Int32).toNatClampNeg) ≤ v2 then
      some v1
    else
      (fm_reachedBut I ((2 : Int32) * v2) (-1 : Int32) (-1 : Int32)).bind fun r2 =>
      fm_parts_L30 I
        (fun (u12 : Int32) (u13 : Int32) (u14 : Int32) =>
          if u14 = 0 then
            fm_parts_L4 I nf (u12 + (0 : Int32)) (u13 + (1 : Int32))
          else
            fm_parts_L4 I nf (u12 + (1 : Int32)) (u13 + (1 : Int32))
        )
        100 v1 v2 r2 (1 : Int32) (0 : Int32)
def fm_parts (I : zI) : Option Int32 :=
  fm_parts_L4 I
    100 (0 : Int32) (0 : Int32)
set_option maxRecDepth 20000 in
theorem lt_fm_parts_L30 {res : Int32} {I : zI} {k78 : Int32 → Int32 → Int32 → Option Int32} (hk78 : ∀ (v1 : Int32) (v2 : Int32) (v4 : Int32), k78 v1 v2 v4 = some res → zG 4 ym_162 0 0 (some (.inl res)) (zMs, zMr, I) zMs.length 78 [(0, .inr (.inr (some 0))), (1, .inl v1), (2, .inl v2), (4, .inl v4)] [] (zMs, zMr, I) 0 0) : ∀ (nf : Nat) (v1 : Int32) (v2 : Int32) (v3 : Int32) (v4 : Int32) (v5 : Int32), fm_parts_L30 I k78 nf v1 v2 v3 v4 v5 = some res → zG 4 ym_162 0 0 (some (.inl res)) (zMs, zMr, I) zMs.length 30 [(0, .inr (.inr (some 0))), (1, .inl v1), (2, .inl v2), (3, .inl v3), (4, .inl v4), (5, .inl v5)] [] (zMs, zMr, I) 0 0 := by
  intro nf
  induction nf with
  | zero =>
    intro v1 v2 v3 v4 v5 h
    have h2 : none = some res := h
    cases h2
  | succ nf ih =>
    intro v1 v2 v3 v4 v5 h
    rw [fm_parts_L30] at h
    refine zg_iload dd_162_30 (j := 5) rfl ?_
    refine zg_iload_n dd_162_32 rfl (j := 2) rfl ?_
    refine zg_icmp_ge (tgt := 78) dd_162_33 (by decide) (fun q4 => ?_) (fun q4 => ?_)
    · replace h := z_t h q4
      refine zg_sub [0, 1, 2, 4] rfl ?_
      exact hk78 _ _ _ h
    · replace h := z_f h q4
      refine zg_iload dd_162_36 (j := 4) rfl ?_
      refine zg_if_eq (tgt := 69) dd_162_38 (by decide) (fun q5 => ?_) (fun q5 => ?_)
      · replace h := z_t h q5
        refine zg_iconst dd_162_69 kI_0 ?_
        refine zg_istore dd_162_70 (Nat.le_of_ble_eq_true rfl) (lv' := [(4, .inl (0 : Int32)), (0, .inr (.inr (some 0))), (1, .inl v1), (2, .inl v2), (3, .inl v3), (5, .inl v5)]) rfl ?_
        refine zg_iinc dd_162_72 (j := 5) rfl (v := (v5 + (1 : Int32))) (by rw [kI_1]) (Nat.le_of_ble_eq_true rfl) (lv' := [(5, .inl (v5 + (1 : Int32))), (4, .inl (0 : Int32)), (0, .inr (.inr (some 0))), (1, .inl v1), (2, .inl v2), (3, .inl v3)]) rfl ?_
        refine zg_goto (tgt := 30) dd_162_75 (by decide) ?_
        refine zg_sub [2, 3, 4, 5, 1, 0] rfl ?_
        exact ih _ _ _ _ _ h
      · replace h := z_f h q5
        refine zg_iload_n dd_162_41 rfl (j := 3) rfl ?_
        refine zg_iconst dd_162_42 kI_2 ?_
        refine zg_iload dd_162_43 (j := 5) rfl ?_
        refine zg_imul dd_162_45 ?_
        obtain ⟨r6, e7, h⟩ := z_bd h
        refine zg_invS_i (av := [.inl v3, .inl ((2 : Int32) * v5)]) (st := []) (n := 2) dd_162_46 ca_165 zw_1237 zw_1238 (mt_fm_has e7) rfl ⟨by decide +kernel, by decide⟩ (Nat.le_of_ble_eq_true rfl) ?_
        refine zg_if_ne (tgt := 69) dd_162_49 (by decide) (fun q8 => ?_) (fun q8 => ?_)
        · replace h := z_f h q8
          refine zg_iconst dd_162_69 kI_0 ?_
          refine zg_istore dd_162_70 (Nat.le_of_ble_eq_true rfl) (lv' := [(4, .inl (0 : Int32)), (0, .inr (.inr (some 0))), (1, .inl v1), (2, .inl v2), (3, .inl v3), (5, .inl v5)]) rfl ?_
          refine zg_iinc dd_162_72 (j := 5) rfl (v := (v5 + (1 : Int32))) (by rw [kI_1]) (Nat.le_of_ble_eq_true rfl) (lv' := [(5, .inl (v5 + (1 : Int32))), (4, .inl (0 : Int32)), (0, .inr (.inr (some 0))), (1, .inl v1), (2, .inl v2), (3, .inl v3)]) rfl ?_
          refine zg_goto (tgt := 30) dd_162_75 (by decide) ?_
          refine zg_sub [2, 3, 4, 5, 1, 0] rfl ?_
          exact ih _ _ _ _ _ h
        · replace h := z_t h q8
          refine zg_iload_n dd_162_52 rfl (j := 3) rfl ?_
          refine zg_iconst dd_162_53 kI_2 ?_
          refine zg_iload dd_162_54 (j := 5) rfl ?_
          refine zg_imul dd_162_56 ?_
          refine zg_iconst dd_162_57 kI_1 ?_
          refine zg_iadd dd_162_58 ?_
          obtain ⟨r9, e10, h⟩ := z_bd h
          refine zg_invS_i (av := [.inl v3, .inl (((2 : Int32) * v5) + (1 : Int32))]) (st := []) (n := 2) dd_162_59 ca_165 zw_1237 zw_1238 (mt_fm_has e10) rfl ⟨by decide +kernel, by decide⟩ (Nat.le_of_ble_eq_true rfl) ?_
          refine zg_if_ne (tgt := 69) dd_162_62 (by decide) (fun q11 => ?_) (fun q11 => ?_)
          · replace h := z_f h q11
            refine zg_iconst dd_162_69 kI_0 ?_
            refine zg_istore dd_162_70 (Nat.le_of_ble_eq_true rfl) (lv' := [(4, .inl (0 : Int32)), (0, .inr (.inr (some 0))), (1, .inl v1), (2, .inl v2), (3, .inl v3), (5, .inl v5)]) rfl ?_
            refine zg_iinc dd_162_72 (j := 5) rfl (v := (v5 + (1 : Int32))) (by rw [kI_1]) (Nat.le_of_ble_eq_true rfl) (lv' := [(5, .inl (v5 + (1 : Int32))), (4, .inl (0 : Int32)), (0, .inr (.inr (some 0))), (1, .inl v1), (2, .inl v2), (3, .inl v3)]) rfl ?_
            refine zg_goto (tgt := 30) dd_162_75 (by decide) ?_
            refine zg_sub [2, 3, 4, 5, 1, 0] rfl ?_
            exact ih _ _ _ _ _ h
          · replace h := z_t h q11
            refine zg_iconst dd_162_65 kI_1 ?_
            refine zg_goto (tgt := 70) dd_162_66 (by decide) ?_
            refine zg_istore dd_162_70 (Nat.le_of_ble_eq_true rfl) (lv' := [(4, .inl (1 : Int32)), (0, .inr (.inr (some 0))), (1, .inl v1), (2, .inl v2), (3, .inl v3), (5, .inl v5)]) rfl ?_
            refine zg_iinc dd_162_72 (j := 5) rfl (v := (v5 + (1 : Int32))) (by rw [kI_1]) (Nat.le_of_ble_eq_true rfl) (lv' := [(5, .inl (v5 + (1 : Int32))), (4, .inl (1 : Int32)), (0, .inr (.inr (some 0))), (1, .inl v1), (2, .inl v2), (3, .inl v3)]) rfl ?_
            refine zg_goto (tgt := 30) dd_162_75 (by decide) ?_
            refine zg_sub [2, 3, 4, 5, 1, 0] rfl ?_
            exact ih _ _ _ _ _ h
set_option maxRecDepth 20000 in
theorem lt_fm_parts_L4 {res : Int32} {I : zI} : ∀ (nf : Nat) (v1 : Int32) (v2 : Int32), fm_parts_L4 I nf v1 v2 = some res → zG 4 ym_162 0 0 (some (.inl res)) (zMs, zMr, I) zMs.length 4 [(0, .inr (.inr (some 0))), (1, .inl v1), (2, .inl v2)] [] (zMs, zMr, I) 0 0 := by
  intro nf
  induction nf with
  | zero =>
    intro v1 v2 h
    have h2 : none = some res := h
    cases h2
  | succ nf ih =>
    intro v1 v2 h
    rw [fm_parts_L4] at h
    refine zg_iload_n dd_162_4 rfl (j := 2) rfl ?_
    refine zg_aload_n dd_162_5 rfl (j := 0) rfl ?_
    refine zg_getR dd_162_6 zl_M_9 zMs_0 rfl zMr_0_0 ?_
    refine zg_iconst dd_162_9 kI_0 ?_
    refine zg_iald (w := (I 1 (0 : Int32).toNatClampNeg)) dd_162_10 zMs_1 (by decide) rfl ?_
    refine zg_icmp_ge (tgt := 97) dd_162_11 (by decide) (fun q1 => ?_) (fun q1 => ?_)
    · replace h := z_t h q1
      refine zg_iload_n dd_162_97 rfl (j := 1) rfl ?_
      obtain rfl := Option.some.inj h
      exact zg_iret dd_162_98 rfl
    · replace h := z_f h q1
      refine zg_aload_n dd_162_14 rfl (j := 0) rfl ?_
      refine zg_iconst dd_162_15 kI_2 ?_
      refine zg_iload_n dd_162_16 rfl (j := 2) rfl ?_
      refine zg_imul dd_162_17 ?_
      refine zg_iconst dd_162_18 kI_m1 ?_
      refine zg_iconst dd_162_19 kI_m1 ?_
      obtain ⟨r2, e3, h⟩ := z_bd h
      refine zg_invV_i (av := [.inl ((2 : Int32) * v2), .inl (-1 : Int32), .inl (-1 : Int32)]) (st := []) (n := 3) dd_162_20 ca_163 zw_1229 zw_1231 zv_44 zMs_0 zcl_12 rfl (mt_fm_reachedBut e3) rfl ⟨by decide +kernel, by decide⟩ (Nat.le_of_ble_eq_true rfl) ?_
      refine zg_istore_n dd_162_23 rfl (Nat.le_of_ble_eq_true rfl) (lv' := [(3, .inl r2), (0, .inr (.inr (some 0))), (1, .inl v1), (2, .inl v2)]) rfl ?_
      refine zg_iconst dd_162_24 kI_1 ?_
      refine zg_istore dd_162_25 (Nat.le_of_ble_eq_true rfl) (lv' := [(4, .inl (1 : Int32)), (3, .inl r2), (0, .inr (.inr (some 0))), (1, .inl v1), (2, .inl v2)]) rfl ?_
      refine zg_iconst dd_162_27 kI_0 ?_
      refine zg_istore dd_162_28 (Nat.le_of_ble_eq_true rfl) (lv' := [(5, .inl (0 : Int32)), (4, .inl (1 : Int32)), (3, .inl r2), (0, .inr (.inr (some 0))), (1, .inl v1), (2, .inl v2)]) rfl ?_
      refine zg_sub [3, 4, 5, 2, 1, 0] rfl ?_
      refine lt_fm_parts_L30 ?_ _ _ _ _ _ _ h
      · intro u12 u13 u14 h
        refine zg_iload_n dd_162_78 rfl (j := 1) rfl ?_
        refine zg_iload dd_162_79 (j := 3) rfl ?_
        refine zg_if_eq (tgt := 88) dd_162_81 (by decide) (fun q16 => ?_) (fun q16 => ?_)
        · replace h := z_t h q16
          refine zg_iconst dd_162_88 kI_0 ?_
          refine zg_iadd dd_162_89 ?_
          refine zg_istore_n dd_162_90 rfl (Nat.le_of_ble_eq_true rfl) (lv' := [(1, .inl (u12 + (0 : Int32))), (0, .inr (.inr (some 0))), (2, .inl u13), (4, .inl u14)]) rfl ?_
          refine zg_iinc dd_162_91 (j := 2) rfl (v := (u13 + (1 : Int32))) (by rw [kI_1]) (Nat.le_of_ble_eq_true rfl) (lv' := [(2, .inl (u13 + (1 : Int32))), (1, .inl (u12 + (0 : Int32))), (0, .inr (.inr (some 0))), (4, .inl u14)]) rfl ?_
          refine zg_goto (tgt := 4) dd_162_94 (by decide) ?_
          refine zg_sub [2, 1, 0] rfl ?_
          exact ih _ _ h
        · replace h := z_f h q16
          refine zg_iconst dd_162_84 kI_1 ?_
          refine zg_goto (tgt := 89) dd_162_85 (by decide) ?_
          refine zg_iadd dd_162_89 ?_
          refine zg_istore_n dd_162_90 rfl (Nat.le_of_ble_eq_true rfl) (lv' := [(1, .inl (u12 + (1 : Int32))), (0, .inr (.inr (some 0))), (2, .inl u13), (4, .inl u14)]) rfl ?_
          refine zg_iinc dd_162_91 (j := 2) rfl (v := (u13 + (1 : Int32))) (by rw [kI_1]) (Nat.le_of_ble_eq_true rfl) (lv' := [(2, .inl (u13 + (1 : Int32))), (1, .inl (u12 + (1 : Int32))), (0, .inr (.inr (some 0))), (4, .inl u14)]) rfl ?_
          refine zg_goto (tgt := 4) dd_162_94 (by decide) ?_
          refine zg_sub [2, 1, 0] rfl ?_
          exact ih _ _ h
set_option maxRecDepth 20000 in
theorem mt_fm_parts {I : zI} {res : Int32} (h : fm_parts I = some res) : zM 4 ym_162 [.inr (.inr (some 0))] (zMs, zMr, I) (some (.inl res)) (zMs, zMr, I) 0 0 := by
  refine zM_of (by decide) (Nat.le_of_ble_eq_true rfl) (lv := [(0, .inr (.inr (some 0)))]) rfl ?_
  rw [fm_parts] at h
  refine zg_iconst dd_162_0 kI_0 ?_
  refine zg_istore_n dd_162_1 rfl (Nat.le_of_ble_eq_true rfl) (lv' := [(1, .inl (0 : Int32)), (0, .inr (.inr (some 0)))]) rfl ?_
  refine zg_iconst dd_162_2 kI_0 ?_
  refine zg_istore_n dd_162_3 rfl (Nat.le_of_ble_eq_true rfl) (lv' := [(2, .inl (0 : Int32)), (1, .inl (0 : Int32)), (0, .inr (.inr (some 0)))]) rfl ?_
  refine zg_sub [2, 1, 0] rfl ?_
  refine lt_fm_parts_L4  _ _ _ h
/-! TurnedLandModel.rims[0] -/
def fm_rims_L58 (k102 : Int32 → Int32 → Int32 → Int32 → zI → Option (Int32 × zI)) : Nat → Int32 → Int32 → Int32 → Int32 → Int32 → zI → Option (Int32 × zI)
  | 0, _, _, _, _, _, _ => none
  | nf + 1, v1, v2, v3, v4, v5, I =>
    if v1 ≤ v5 then
      k102 v1 v2 v3 v4 I
    else
      if v4 = 0 then
        (fm_joinAt I v5).bind fun r7 =>
        if 0 ≤ r7 then
          fm_rims_L58 k102 nf v1 v2 v3 (0 : Int32) (v5 + (1 : Int32)) I
        else
          z_guard (zb v5 32) <|
          if (I 4 v5.toNatClampNeg) = v3 then
            fm_rims_L58 k102 nf v1 v2 v3 (1 : Int32) (v5 + (1 : Int32)) I
          else
            fm_rims_L58 k102 nf v1 v2 v3 (0 : Int32) (v5 + (1 : Int32)) I
      else
        fm_rims_L58 k102 nf v1 v2 v3 (1 : Int32) (v5 + (1 : Int32)) I
def fm_rims_L47 : Nat → Int32 → Int32 → Int32 → zI → Option (Int32 × zI)
  | 0, _, _, _, _ => none
  | nf + 1, v1, v2, v3, I =>
    if v1 ≤ v3 then
      some (v2, I)
    else
      fm_rims_L58
        (fun (u12 : Int32) (u13 : Int32) (u14 : Int32) (u15 : Int32) (J16 : zI) =>
          if u15 = 0 then
            fm_rims_L47 nf u12 (u13 + (0 : Int32)) (u14 + (1 : Int32)) J16
          else
            fm_rims_L47 nf u12 (u13 + (1 : Int32)) (u14 + (1 : Int32)) J16
        )
        100 v1 v2 v3 (0 : Int32) (0 : Int32) I
def fm_rims_L15 : Nat → Int32 → Int32 → zI → Option (Int32 × zI)
  | 0, _, _, _ => none
  | nf + 1, v1, v2, I =>
    if v1 ≤ v2 then
      fm_rims_L47
        100 v1 (0 : Int32) (0 : Int32) I
    else
      (fm_joinAt I v2).bind fun r18 =>
      if 0 ≤ r18 then
        fm_rims_L15 nf v1 (v2 + (1 : Int32)) I
      else
        (fm_second I v2).bind fun r21 =>
        (fm_oneOf I v2 r21).bind fun r23 =>
        fm_rims_L15 nf v1 (v2 + (1 : Int32)) r23
def fm_rims (I : zI) : Option (Int32 × zI) :=
  (fm_findCorners I).bind fun r1 =>
  fm_rims_L15
    100 ((4 : Int32) * (r1 1 (0 : Int32).toNatClampNeg)) (0 : Int32) r1
set_option maxRecDepth 20000 in
theorem lt_fm_rims_L58 {res : (Int32 × zI)} {k102 : Int32 → Int32 → Int32 → Int32 → zI → Option (Int32 × zI)} (hk102 : ∀ (v1 : Int32) (v2 : Int32) (v3 : Int32) (v4 : Int32) (J : zI), k102 v1 v2 v3 v4 J = some res → zG 3 ym_166 0 0 (some (.inl res.1)) (zMs, zMr, res.2) zMs.length 102 [(0, .inr (.inr (some 0))), (1, .inl v1), (2, .inl v2), (3, .inl v3), (4, .inl v4)] [] (zMs, zMr, J) 0 0) : ∀ (nf : Nat) (v1 : Int32) (v2 : Int32) (v3 : Int32) (v4 : Int32) (v5 : Int32) (I : zI), fm_rims_L58 k102 nf v1 v2 v3 v4 v5 I = some res → zG 3 ym_166 0 0 (some (.inl res.1)) (zMs, zMr, res.2) zMs.length 58 [(0, .inr (.inr (some 0))), (1, .inl v1), (2, .inl v2), (3, .inl v3), (4, .inl v4), (5, .inl v5)] [] (zMs, zMr, I) 0 0 := by
  intro nf
  induction nf with
  | zero =>
    intro v1 v2 v3 v4 v5 I h
    have h2 : none = some res := h
    cases h2
  | succ nf ih =>
    intro v1 v2 v3 v4 v5 I h
    rw [fm_rims_L58] at h
    refine zg_iload dd_166_58 (j := 5) rfl ?_
    refine zg_iload_n dd_166_60 rfl (j := 1) rfl ?_
    refine zg_icmp_ge (tgt := 102) dd_166_61 (by decide) (fun q5 => ?_) (fun q5 => ?_)
    · replace h := z_t h q5
      refine zg_sub [0, 1, 2, 3, 4] rfl ?_
      exact hk102 _ _ _ _ _ h
    · replace h := z_f h q5
      refine zg_iload dd_166_64 (j := 4) rfl ?_
      refine zg_if_ne (tgt := 89) dd_166_66 (by decide) (fun q6 => ?_) (fun q6 => ?_)
      · replace h := z_f h q6
        refine zg_iconst dd_166_89 kI_1 ?_
        refine zg_goto (tgt := 94) dd_166_90 (by decide) ?_
        refine zg_istore dd_166_94 (Nat.le_of_ble_eq_true rfl) (lv' := [(4, .inl (1 : Int32)), (0, .inr (.inr (some 0))), (1, .inl v1), (2, .inl v2), (3, .inl v3), (5, .inl v5)]) rfl ?_
        refine zg_iinc dd_166_96 (j := 5) rfl (v := (v5 + (1 : Int32))) (by rw [kI_1]) (Nat.le_of_ble_eq_true rfl) (lv' := [(5, .inl (v5 + (1 : Int32))), (4, .inl (1 : Int32)), (0, .inr (.inr (some 0))), (1, .inl v1), (2, .inl v2), (3, .inl v3)]) rfl ?_
        refine zg_goto (tgt := 58) dd_166_99 (by decide) ?_
        refine zg_sub [2, 3, 4, 5, 1, 0] rfl ?_
        exact ih _ _ _ _ _ _ h
      · replace h := z_t h q6
        refine zg_aload_n dd_166_69 rfl (j := 0) rfl ?_
        refine zg_iload dd_166_70 (j := 5) rfl ?_
        obtain ⟨r7, e8, h⟩ := z_bd h
        refine zg_invV_i (av := [.inl v5]) (st := []) (n := 1) dd_166_72 ca_149 zw_1170 zw_1172 zv_36 zMs_0 zcl_12 rfl (mt_fm_joinAt e8) rfl ⟨by decide +kernel, by decide⟩ (Nat.le_of_ble_eq_true rfl) ?_
        refine zg_if_ge (tgt := 93) dd_166_75 (by decide) (fun q9 => ?_) (fun q9 => ?_)
        · replace h := z_t h q9
          refine zg_iconst dd_166_93 kI_0 ?_
          refine zg_istore dd_166_94 (Nat.le_of_ble_eq_true rfl) (lv' := [(4, .inl (0 : Int32)), (0, .inr (.inr (some 0))), (1, .inl v1), (2, .inl v2), (3, .inl v3), (5, .inl v5)]) rfl ?_
          refine zg_iinc dd_166_96 (j := 5) rfl (v := (v5 + (1 : Int32))) (by rw [kI_1]) (Nat.le_of_ble_eq_true rfl) (lv' := [(5, .inl (v5 + (1 : Int32))), (4, .inl (0 : Int32)), (0, .inr (.inr (some 0))), (1, .inl v1), (2, .inl v2), (3, .inl v3)]) rfl ?_
          refine zg_goto (tgt := 58) dd_166_99 (by decide) ?_
          refine zg_sub [2, 3, 4, 5, 1, 0] rfl ?_
          exact ih _ _ _ _ _ _ h
        · replace h := z_f h q9
          refine zg_aload_n dd_166_78 rfl (j := 0) rfl ?_
          refine zg_getR dd_166_79 zl_M_19 zMs_0 rfl zMr_0_4 ?_
          refine zg_iload dd_166_82 (j := 5) rfl ?_
          obtain ⟨g10, h⟩ := z_gd h
          refine zg_iald (w := (I 4 v5.toNatClampNeg)) dd_166_84 zMs_4 g10 rfl ?_
          refine zg_iload_n dd_166_85 rfl (j := 3) rfl ?_
          refine zg_icmp_ne (tgt := 93) dd_166_86 (by decide) (fun q11 => ?_) (fun q11 => ?_)
          · replace h := z_f h q11
            refine zg_iconst dd_166_93 kI_0 ?_
            refine zg_istore dd_166_94 (Nat.le_of_ble_eq_true rfl) (lv' := [(4, .inl (0 : Int32)), (0, .inr (.inr (some 0))), (1, .inl v1), (2, .inl v2), (3, .inl v3), (5, .inl v5)]) rfl ?_
            refine zg_iinc dd_166_96 (j := 5) rfl (v := (v5 + (1 : Int32))) (by rw [kI_1]) (Nat.le_of_ble_eq_true rfl) (lv' := [(5, .inl (v5 + (1 : Int32))), (4, .inl (0 : Int32)), (0, .inr (.inr (some 0))), (1, .inl v1), (2, .inl v2), (3, .inl v3)]) rfl ?_
            refine zg_goto (tgt := 58) dd_166_99 (by decide) ?_
            refine zg_sub [2, 3, 4, 5, 1, 0] rfl ?_
            exact ih _ _ _ _ _ _ h
          · replace h := z_t h q11
            refine zg_iconst dd_166_89 kI_1 ?_
            refine zg_goto (tgt := 94) dd_166_90 (by decide) ?_
            refine zg_istore dd_166_94 (Nat.le_of_ble_eq_true rfl) (lv' := [(4, .inl (1 : Int32)), (0, .inr (.inr (some 0))), (1, .inl v1), (2, .inl v2), (3, .inl v3), (5, .inl v5)]) rfl ?_
            refine zg_iinc dd_166_96 (j := 5) rfl (v := (v5 + (1 : Int32))) (by rw [kI_1]) (Nat.le_of_ble_eq_true rfl) (lv' := [(5, .inl (v5 + (1 : Int32))), (4, .inl (1 : Int32)), (0, .inr (.inr (some 0))), (1, .inl v1), (2, .inl v2), (3, .inl v3)]) rfl ?_
            refine zg_goto (tgt := 58) dd_166_99 (by decide) ?_
            refine zg_sub [2, 3, 4, 5, 1, 0] rfl ?_
            exact ih _ _ _ _ _ _ h
set_option maxRecDepth 20000 in
theorem lt_fm_rims_L47 {res : (Int32 × zI)} : ∀ (nf : Nat) (v1 : Int32) (v2 : Int32) (v3 : Int32) (I : zI), fm_rims_L47 nf v1 v2 v3 I = some res → zG 3 ym_166 0 0 (some (.inl res.1)) (zMs, zMr, res.2) zMs.length 47 [(0, .inr (.inr (some 0))), (1, .inl v1), (2, .inl v2), (3, .inl v3)] [] (zMs, zMr, I) 0 0 := by
  intro nf
  induction nf with
  | zero =>
    intro v1 v2 v3 I h
    have h2 : none = some res := h
    cases h2
  | succ nf ih =>
    intro v1 v2 v3 I h
    rw [fm_rims_L47] at h
    refine zg_iload_n dd_166_47 rfl (j := 3) rfl ?_
    refine zg_iload_n dd_166_48 rfl (j := 1) rfl ?_
    refine zg_icmp_ge (tgt := 121) dd_166_49 (by decide) (fun q4 => ?_) (fun q4 => ?_)
    · replace h := z_t h q4
      refine zg_iload_n dd_166_121 rfl (j := 2) rfl ?_
      obtain rfl := Option.some.inj h
      exact zg_iret dd_166_122 rfl
    · replace h := z_f h q4
      refine zg_iconst dd_166_52 kI_0 ?_
      refine zg_istore dd_166_53 (Nat.le_of_ble_eq_true rfl) (lv' := [(4, .inl (0 : Int32)), (0, .inr (.inr (some 0))), (1, .inl v1), (2, .inl v2), (3, .inl v3)]) rfl ?_
      refine zg_iconst dd_166_55 kI_0 ?_
      refine zg_istore dd_166_56 (Nat.le_of_ble_eq_true rfl) (lv' := [(5, .inl (0 : Int32)), (4, .inl (0 : Int32)), (0, .inr (.inr (some 0))), (1, .inl v1), (2, .inl v2), (3, .inl v3)]) rfl ?_
      refine zg_sub [2, 3, 4, 5, 1, 0] rfl ?_
      refine lt_fm_rims_L58 ?_ _ _ _ _ _ _ _ h
      · intro u12 u13 u14 u15 J16 h
        refine zg_iload_n dd_166_102 rfl (j := 2) rfl ?_
        refine zg_iload dd_166_103 (j := 4) rfl ?_
        refine zg_if_eq (tgt := 112) dd_166_105 (by decide) (fun q17 => ?_) (fun q17 => ?_)
        · replace h := z_t h q17
          refine zg_iconst dd_166_112 kI_0 ?_
          refine zg_iadd dd_166_113 ?_
          refine zg_istore_n dd_166_114 rfl (Nat.le_of_ble_eq_true rfl) (lv' := [(2, .inl (u13 + (0 : Int32))), (0, .inr (.inr (some 0))), (1, .inl u12), (3, .inl u14), (4, .inl u15)]) rfl ?_
          refine zg_iinc dd_166_115 (j := 3) rfl (v := (u14 + (1 : Int32))) (by rw [kI_1]) (Nat.le_of_ble_eq_true rfl) (lv' := [(3, .inl (u14 + (1 : Int32))), (2, .inl (u13 + (0 : Int32))), (0, .inr (.inr (some 0))), (1, .inl u12), (4, .inl u15)]) rfl ?_
          refine zg_goto (tgt := 47) dd_166_118 (by decide) ?_
          refine zg_sub [2, 3, 1, 0] rfl ?_
          exact ih _ _ _ _ h
        · replace h := z_f h q17
          refine zg_iconst dd_166_108 kI_1 ?_
          refine zg_goto (tgt := 113) dd_166_109 (by decide) ?_
          refine zg_iadd dd_166_113 ?_
          refine zg_istore_n dd_166_114 rfl (Nat.le_of_ble_eq_true rfl) (lv' := [(2, .inl (u13 + (1 : Int32))), (0, .inr (.inr (some 0))), (1, .inl u12), (3, .inl u14), (4, .inl u15)]) rfl ?_
          refine zg_iinc dd_166_115 (j := 3) rfl (v := (u14 + (1 : Int32))) (by rw [kI_1]) (Nat.le_of_ble_eq_true rfl) (lv' := [(3, .inl (u14 + (1 : Int32))), (2, .inl (u13 + (1 : Int32))), (0, .inr (.inr (some 0))), (1, .inl u12), (4, .inl u15)]) rfl ?_
          refine zg_goto (tgt := 47) dd_166_118 (by decide) ?_
          refine zg_sub [2, 3, 1, 0] rfl ?_
          exact ih _ _ _ _ h
set_option maxRecDepth 20000 in
theorem lt_fm_rims_L15 {res : (Int32 × zI)} : ∀ (nf : Nat) (v1 : Int32) (v2 : Int32) (I : zI), fm_rims_L15 nf v1 v2 I = some res → zG 3 ym_166 0 0 (some (.inl res.1)) (zMs, zMr, res.2) zMs.length 15 [(0, .inr (.inr (some 0))), (1, .inl v1), (2, .inl v2)] [] (zMs, zMr, I) 0 0 := by
  intro nf
  induction nf with
  | zero =>
    intro v1 v2 I h
    have h2 : none = some res := h
    cases h2
  | succ nf ih =>
    intro v1 v2 I h
    rw [fm_rims_L15] at h
    refine zg_iload_n dd_166_15 rfl (j := 2) rfl ?_
    refine zg_iload_n dd_166_16 rfl (j := 1) rfl ?_
    refine zg_icmp_ge (tgt := 43) dd_166_17 (by decide) (fun q3 => ?_) (fun q3 => ?_)
    · replace h := z_t h q3
      refine zg_iconst dd_166_43 kI_0 ?_
      refine zg_istore_n dd_166_44 rfl (Nat.le_of_ble_eq_true rfl) (lv' := [(2, .inl (0 : Int32)), (0, .inr (.inr (some 0))), (1, .inl v1)]) rfl ?_
      refine zg_iconst dd_166_45 kI_0 ?_
      refine zg_istore_n dd_166_46 rfl (Nat.le_of_ble_eq_true rfl) (lv' := [(3, .inl (0 : Int32)), (2, .inl (0 : Int32)), (0, .inr (.inr (some 0))), (1, .inl v1)]) rfl ?_
      refine zg_sub [2, 3, 1, 0] rfl ?_
      refine lt_fm_rims_L47  _ _ _ _ _ h
    · replace h := z_f h q3
      refine zg_aload_n dd_166_20 rfl (j := 0) rfl ?_
      refine zg_iload_n dd_166_21 rfl (j := 2) rfl ?_
      obtain ⟨r18, e19, h⟩ := z_bd h
      refine zg_invV_i (av := [.inl v2]) (st := []) (n := 1) dd_166_22 ca_149 zw_1170 zw_1172 zv_36 zMs_0 zcl_12 rfl (mt_fm_joinAt e19) rfl ⟨by decide +kernel, by decide⟩ (Nat.le_of_ble_eq_true rfl) ?_
      refine zg_if_ge (tgt := 37) dd_166_25 (by decide) (fun q20 => ?_) (fun q20 => ?_)
      · replace h := z_t h q20
        refine zg_iinc dd_166_37 (j := 2) rfl (v := (v2 + (1 : Int32))) (by rw [kI_1]) (Nat.le_of_ble_eq_true rfl) (lv' := [(2, .inl (v2 + (1 : Int32))), (0, .inr (.inr (some 0))), (1, .inl v1)]) rfl ?_
        refine zg_goto (tgt := 15) dd_166_40 (by decide) ?_
        refine zg_sub [1, 2, 0] rfl ?_
        exact ih _ _ _ h
      · replace h := z_f h q20
        refine zg_aload_n dd_166_28 rfl (j := 0) rfl ?_
        refine zg_iload_n dd_166_29 rfl (j := 2) rfl ?_
        refine zg_iload_n dd_166_30 rfl (j := 2) rfl ?_
        obtain ⟨r21, e22, h⟩ := z_bd h
        refine zg_invS_i (av := [.inl v2]) (st := [.inl v2, .inr (.inr (some 0))]) (n := 1) dd_166_31 ca_160 zw_1216 zw_1217 (mt_fm_second e22) rfl ⟨by decide +kernel, by decide⟩ (Nat.le_of_ble_eq_true rfl) ?_
        obtain ⟨r23, e24, h⟩ := z_bd h
        refine zg_invV_v (av := [.inl v2, .inl r21]) (st := []) (n := 2) dd_166_34 ca_161 zw_1219 zw_1221 zv_42 zMs_0 zcl_12 rfl (mt_fm_oneOf e24) rfl ⟨by decide +kernel, by decide⟩ (Nat.le_of_ble_eq_true rfl) ?_
        refine zg_iinc dd_166_37 (j := 2) rfl (v := (v2 + (1 : Int32))) (by rw [kI_1]) (Nat.le_of_ble_eq_true rfl) (lv' := [(2, .inl (v2 + (1 : Int32))), (0, .inr (.inr (some 0))), (1, .inl v1)]) rfl ?_
        refine zg_goto (tgt := 15) dd_166_40 (by decide) ?_
        refine zg_sub [1, 2, 0] rfl ?_
        exact ih _ _ _ h
set_option maxRecDepth 20000 in
theorem mt_fm_rims {I : zI} {res : (Int32 × zI)} (h : fm_rims I = some res) : zM 3 ym_166 [.inr (.inr (some 0))] (zMs, zMr, I) (some (.inl res.1)) (zMs, zMr, res.2) 0 0 := by
  refine zM_of (by decide) (Nat.le_of_ble_eq_true rfl) (lv := [(0, .inr (.inr (some 0)))]) rfl ?_
  rw [fm_rims] at h
  refine zg_aload_n dd_166_0 rfl (j := 0) rfl ?_
  obtain ⟨r1, e2, h⟩ := z_bd h
  refine zg_invV_v (av := []) (st := []) (n := 0) dd_166_1 ca_159 zw_1212 zw_1214 zv_41 zMs_0 zcl_12 rfl (mt_fm_findCorners e2) rfl ⟨by decide +kernel, by decide⟩ (Nat.le_of_ble_eq_true rfl) ?_
  refine zg_iconst dd_166_4 kI_4 ?_
  refine zg_aload_n dd_166_5 rfl (j := 0) rfl ?_
  refine zg_getR dd_166_6 zl_M_9 zMs_0 rfl zMr_0_0 ?_
  refine zg_iconst dd_166_9 kI_0 ?_
  refine zg_iald (w := (r1 1 (0 : Int32).toNatClampNeg)) dd_166_10 zMs_1 (by decide) rfl ?_
  refine zg_imul dd_166_11 ?_
  refine zg_istore_n dd_166_12 rfl (Nat.le_of_ble_eq_true rfl) (lv' := [(1, .inl ((4 : Int32) * (r1 1 (0 : Int32).toNatClampNeg))), (0, .inr (.inr (some 0)))]) rfl ?_
  refine zg_iconst dd_166_13 kI_0 ?_
  refine zg_istore_n dd_166_14 rfl (Nat.le_of_ble_eq_true rfl) (lv' := [(2, .inl (0 : Int32)), (1, .inl ((4 : Int32) * (r1 1 (0 : Int32).toNatClampNeg))), (0, .inr (.inr (some 0)))]) rfl ?_
  refine zg_sub [2, 1, 0] rfl ?_
  refine lt_fm_rims_L15  _ _ _ _ h
