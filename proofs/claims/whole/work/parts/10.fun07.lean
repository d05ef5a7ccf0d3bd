/-! TurnedLandModel.within[None, None, None] -/
def fm_within (I : zI) (a0 : Int32) (a1 : Int32) (a2 : Int32) : Option Int32 :=
  if a0 < a1 then
    some (0 : Int32)
  else
    if a2 < a0 then
      some (0 : Int32)
    else
      some (1 : Int32)
set_option maxRecDepth 20000 in
theorem mt_fm_within {I : zI} {a0 : Int32} {a1 : Int32} {a2 : Int32} {res : Int32} (h : fm_within I a0 a1 a2 = some res) : zM 1 ym_142 [.inl a0, .inl a1, .inl a2] (zMs, zMr, I) (some (.inl res)) (zMs, zMr, I) 0 0 := by
  refine zM_of (by decide) (Nat.le_of_ble_eq_true rfl) (lv := [(0, .inl a0), (1, .inl a1), (2, .inl a2)]) rfl ?_
  rw [fm_within] at h
  refine zg_iload_n dd_142_0 rfl (j := 0) rfl ?_
  refine zg_iload_n dd_142_1 rfl (j := 1) rfl ?_
  refine zg_icmp_lt (tgt := 14) dd_142_2 (by decide) (fun q1 => ?_) (fun q1 => ?_)
  · replace h := z_t h q1
    refine zg_iconst dd_142_14 kI_0 ?_
    obtain rfl := Option.some.inj h
    exact zg_zret dd_142_15 rfl zSt_b0.1
  · replace h := z_f h q1
    refine zg_iload_n dd_142_5 rfl (j := 0) rfl ?_
    refine zg_iload_n dd_142_6 rfl (j := 2) rfl ?_
    refine zg_icmp_gt (tgt := 14) dd_142_7 (by decide) (fun q2 => ?_) (fun q2 => ?_)
    · replace h := z_t h q2
      refine zg_iconst dd_142_14 kI_0 ?_
      obtain rfl := Option.some.inj h
      exact zg_zret dd_142_15 rfl zSt_b0.1
    · replace h := z_f h q2
      refine zg_iconst dd_142_10 kI_1 ?_
      refine zg_goto (tgt := 15) dd_142_11 (by decide) ?_
      obtain rfl := Option.some.inj h
      exact zg_zret dd_142_15 rfl zSt_b1.1
/-! TurnedLandModel.finding[0, None] -/
def fm_finding (I : zI) (a1 : Int32) : Option (Int32 × zI) :=
  z_guard (zb ((-1000000 : Int32) - a1) 7) <|
  z_guard (zb ((-1000000 : Int32) - a1) 7) <|
  some (a1, (zup I 3 ((-1000000 : Int32) - a1).toNatClampNeg ((I 3 ((-1000000 : Int32) - a1).toNatClampNeg) + (1 : Int32))))
set_option maxRecDepth 20000 in
theorem mt_fm_finding {I : zI} {a1 : Int32} {res : (Int32 × zI)} (h : fm_finding I a1 = some res) : zM 1 ym_143 [.inr (.inr (some 0)), .inl a1] (zMs, zMr, I) (some (.inl res.1)) (zMs, zMr, res.2) 0 0 := by
  refine zM_of (by decide) (Nat.le_of_ble_eq_true rfl) (lv := [(0, .inr (.inr (some 0))), (1, .inl a1)]) rfl ?_
  rw [fm_finding] at h
  refine zg_aload_n dd_143_0 rfl (j := 0) rfl ?_
  refine zg_getR dd_143_1 zl_M_16 zMs_0 rfl zMr_0_3 ?_
  refine zg_ldc dd_143_4 zw_1144 ?_
  refine zg_iload_n dd_143_6 rfl (j := 1) rfl ?_
  refine zg_isub dd_143_7 ?_
  refine zg_dup2 dd_143_8 rfl rfl ?_
  obtain ⟨g1, h⟩ := z_gd h
  refine zg_iald dd_143_9 zMs_3 g1 ?_
  refine zg_iconst dd_143_10 kI_1 ?_
  refine zg_iadd dd_143_11 ?_
  obtain ⟨g2, h⟩ := z_gd h
  refine zg_iast dd_143_12 zMs_3 g2 ?_
  refine zg_iload_n dd_143_13 rfl (j := 1) rfl ?_
  obtain rfl := Option.some.inj h
  exact zg_iret dd_143_14 rfl
/-! TurnedLandModel.square(0, None) -/
def fm_square (I : zI) (a1 : Int32) : Option (Int32 × zI) :=
  (fm_within I a1 (1 : Int32) (99 : Int32)).bind fun r1 =>
  if r1 = 0 then
    (fm_finding I (-1000001 : Int32)).bind fun r8 =>
    some (r8.1, r8.2)
  else
    if (I 1 (0 : Int32).toNatClampNeg) = (8 : Int32) then
      (fm_finding I (-1000004 : Int32)).bind fun r6 =>
      some (r6.1, r6.2)
    else
      z_guard (zb ((10 : Int32) + (I 1 (0 : Int32).toNatClampNeg)) 448) <|
      some ((I 1 (0 : Int32).toNatClampNeg), (zup (zup I 1 ((10 : Int32) + (I 1 (0 : Int32).toNatClampNeg)).toNatClampNeg a1) 1 (0 : Int32).toNatClampNeg (((zup I 1 ((10 : Int32) + (I 1 (0 : Int32).toNatClampNeg)).toNatClampNeg a1) 1 (0 : Int32).toNatClampNeg) + (1 : Int32))))
set_option maxRecDepth 20000 in
theorem mt_fm_square {I : zI} {a1 : Int32} {res : (Int32 × zI)} (h : fm_square I a1 = some res) : zM 2 ym_141 [.inr (.inr (some 0)), .inl a1] (zMs, zMr, I) (some (.inl res.1)) (zMs, zMr, res.2) 0 0 := by
  refine zM_of (by decide) (Nat.le_of_ble_eq_true rfl) (lv := [(0, .inr (.inr (some 0))), (1, .inl a1)]) rfl ?_
  rw [fm_square] at h
  refine zg_iload_n dd_141_0 rfl (j := 1) rfl ?_
  refine zg_iconst dd_141_1 kI_1 ?_
  refine zg_bipush dd_141_2 kB_99 ?_
  obtain ⟨r1, e2, h⟩ := z_bd h
  refine zg_invS_i (av := [.inl a1, .inl (1 : Int32), .inl (99 : Int32)]) (st := []) (n := 3) dd_141_4 ca_142 zw_1136 zw_1137 (mt_fm_within e2) rfl ⟨by decide +kernel, by decide⟩ (Nat.le_of_ble_eq_true rfl) ?_
  refine zg_if_ne (tgt := 17) dd_141_7 (by decide) (fun q3 => ?_) (fun q3 => ?_)
  · replace h := z_f h q3
    refine zg_aload_n dd_141_17 rfl (j := 0) rfl ?_
    refine zg_getR dd_141_18 zl_M_9 zMs_0 rfl zMr_0_0 ?_
    refine zg_iconst dd_141_21 kI_0 ?_
    refine zg_iald dd_141_22 zMs_1 (by decide) ?_
    refine zg_istore_n dd_141_23 rfl (Nat.le_of_ble_eq_true rfl) (lv' := [(2, .inl (I 1 (0 : Int32).toNatClampNeg)), (0, .inr (.inr (some 0))), (1, .inl a1)]) rfl ?_
    refine zg_iload_n dd_141_24 rfl (j := 0) rfl ?_
    refine zg_bipush dd_141_25 kB_8 ?_
    refine zg_icmp_ne (tgt := 37) dd_141_27 (by decide) (fun q4 => ?_) (fun q4 => ?_)
    · replace h := z_f h q4
      refine zg_aload_n dd_141_37 rfl (j := 1) rfl ?_
      refine zg_getR dd_141_38 zl_M_9 zMs_0 rfl zMr_0_0 ?_
      refine zg_bipush dd_141_41 kB_10 ?_
      refine zg_iload_n dd_141_43 rfl (j := 0) rfl ?_
      refine zg_iadd dd_141_44 ?_
      refine zg_iload_n dd_141_45 rfl (j := 2) rfl ?_
      obtain ⟨g5, h⟩ := z_gd h
      refine zg_iast dd_141_46 zMs_1 g5 ?_
      refine zg_aload_n dd_141_47 rfl (j := 1) rfl ?_
      refine zg_getR dd_141_48 zl_M_9 zMs_0 rfl zMr_0_0 ?_
      refine zg_iconst dd_141_51 kI_0 ?_
      refine zg_dup2 dd_141_52 rfl rfl ?_
      refine zg_iald dd_141_53 zMs_1 (by decide) ?_
      refine zg_iconst dd_141_54 kI_1 ?_
      refine zg_iadd dd_141_55 ?_
      refine zg_iast dd_141_56 zMs_1 (by decide) ?_
      refine zg_iload_n dd_141_57 rfl (j := 0) rfl ?_
      obtain rfl := Option.some.inj h
      exact zg_iret dd_141_58 rfl
    · replace h := z_t h q4
      refine zg_aload_n dd_141_30 rfl (j := 1) rfl ?_
      refine zg_ldc dd_141_31 zw_1145 ?_
      obtain ⟨r6, e7, h⟩ := z_bd h
      refine zg_invV_i (av := [.inl (-1000004 : Int32)]) (st := []) (n := 1) dd_141_33 ca_143 zw_1140 zw_1142 zv_31 zMs_0 zcl_12 rfl (mt_fm_finding e7) rfl ⟨by decide +kernel, by decide⟩ (Nat.le_of_ble_eq_true rfl) ?_
      obtain rfl := Option.some.inj h
      exact zg_iret dd_141_36 rfl
  · replace h := z_t h q3
    refine zg_aload_n dd_141_10 rfl (j := 0) rfl ?_
    refine zg_ldc dd_141_11 zw_1139 ?_
    obtain ⟨r8, e9, h⟩ := z_bd h
    refine zg_invV_i (av := [.inl (-1000001 : Int32)]) (st := []) (n := 1) dd_141_13 ca_143 zw_1140 zw_1142 zv_31 zMs_0 zcl_12 rfl (mt_fm_finding e9) rfl ⟨by decide +kernel, by decide⟩ (Nat.le_of_ble_eq_true rfl) ?_
    obtain rfl := Option.some.inj h
    exact zg_iret dd_141_16 rfl
/-! TurnedLandModel.is[0, None, None] -/
def fm_is (I : zI) (a1 : Int32) (a2 : Int32) : Option Int32 :=
  z_guard (zb a2 448) <|
  (fm_within I a1 (0 : Int32) ((I 1 a2.toNatClampNeg) - (1 : Int32))).bind fun r2 =>
  z_guard (zbb r2) <|
  some r2
set_option maxRecDepth 20000 in
theorem mt_fm_is {I : zI} {a1 : Int32} {a2 : Int32} {res : Int32} (h : fm_is I a1 a2 = some res) : zM 2 ym_145 [.inr (.inr (some 0)), .inl a1, .inl a2] (zMs, zMr, I) (some (.inl res)) (zMs, zMr, I) 0 0 := by
  refine zM_of (by decide) (Nat.le_of_ble_eq_true rfl) (lv := [(0, .inr (.inr (some 0))), (1, .inl a1), (2, .inl a2)]) rfl ?_
  rw [fm_is] at h
  refine zg_iload_n dd_145_0 rfl (j := 1) rfl ?_
  refine zg_iconst dd_145_1 kI_0 ?_
  refine zg_aload_n dd_145_2 rfl (j := 0) rfl ?_
  refine zg_getR dd_145_3 zl_M_9 zMs_0 rfl zMr_0_0 ?_
  refine zg_iload_n dd_145_6 rfl (j := 2) rfl ?_
  obtain ⟨g1, h⟩ := z_gd h
  refine zg_iald dd_145_7 zMs_1 g1 ?_
  refine zg_iconst dd_145_8 kI_1 ?_
  refine zg_isub dd_145_9 ?_
  obtain ⟨r2, e3, h⟩ := z_bd h
  refine zg_invS_i (av := [.inl a1, .inl (0 : Int32), .inl ((I 1 a2.toNatClampNeg) - (1 : Int32))]) (st := []) (n := 3) dd_145_10 ca_142 zw_1136 zw_1137 (mt_fm_within e3) rfl ⟨by decide +kernel, by decide⟩ (Nat.le_of_ble_eq_true rfl) ?_
  obtain ⟨g4, h⟩ := z_gd h
  obtain rfl := Option.some.inj h
  exact zg_zret dd_145_13 rfl (zSt_bb g4).1
/-! TurnedLandModel.become[0, None, None] -/
def fm_become (I : zI) (a1 : Int32) (a2 : Int32) : Option (Int32 × zI) :=
  z_guard (zb a1 448) <|
  z_guard (zb a1 448) <|
  some ((I 1 a1.toNatClampNeg), (zup I 1 a1.toNatClampNeg a2))
set_option maxRecDepth 20000 in
theorem mt_fm_become {I : zI} {a1 : Int32} {a2 : Int32} {res : (Int32 × zI)} (h : fm_become I a1 a2 = some res) : zM 1 ym_146 [.inr (.inr (some 0)), .inl a1, .inl a2] (zMs, zMr, I) (some (.inl res.1)) (zMs, zMr, res.2) 0 0 := by
  refine zM_of (by decide) (Nat.le_of_ble_eq_true rfl) (lv := [(0, .inr (.inr (some 0))), (1, .inl a1), (2, .inl a2)]) rfl ?_
  rw [fm_become] at h
  refine zg_aload_n dd_146_0 rfl (j := 0) rfl ?_
  refine zg_getR dd_146_1 zl_M_9 zMs_0 rfl zMr_0_0 ?_
  refine zg_iload_n dd_146_4 rfl (j := 1) rfl ?_
  obtain ⟨g1, h⟩ := z_gd h
  refine zg_iald dd_146_5 zMs_1 g1 ?_
  refine zg_istore_n dd_146_6 rfl (Nat.le_of_ble_eq_true rfl) (lv' := [(3, .inl (I 1 a1.toNatClampNeg)), (0, .inr (.inr (some 0))), (1, .inl a1), (2, .inl a2)]) rfl ?_
  refine zg_aload_n dd_146_7 rfl (j := 1) rfl ?_
  refine zg_getR dd_146_8 zl_M_9 zMs_0 rfl zMr_0_0 ?_
  refine zg_iload_n dd_146_11 rfl (j := 2) rfl ?_
  refine zg_iload_n dd_146_12 rfl (j := 3) rfl ?_
  obtain ⟨g2, h⟩ := z_gd h
  refine zg_iast dd_146_13 zMs_1 g2 ?_
  refine zg_iload_n dd_146_14 rfl (j := 0) rfl ?_
  obtain rfl := Option.some.inj h
  exact zg_iret dd_146_15 rfl
/-! TurnedLandModel.cost(0, None, None) -/
def fm_cost (I : zI) (a1 : Int32) (a2 : Int32) : Option (Int32 × zI) :=
  (fm_is I a1 (0 : Int32)).bind fun r1 =>
  if r1 = 0 then
    (fm_finding I (-1000001 : Int32)).bind fun r4 =>
    some (r4.1, r4.2)
  else
    (fm_within I a2 (1 : Int32) (99 : Int32)).bind fun r6 =>
    if r6 = 0 then
      (fm_finding I (-1000001 : Int32)).bind fun r9 =>
      some (r9.1, r9.2)
    else
      (fm_become I ((10 : Int32) + a1) a2).bind fun r11 =>
      some (r11.1, r11.2)
set_option maxRecDepth 20000 in
theorem mt_fm_cost {I : zI} {a1 : Int32} {a2 : Int32} {res : (Int32 × zI)} (h : fm_cost I a1 a2 = some res) : zM 3 ym_144 [.inr (.inr (some 0)), .inl a1, .inl a2] (zMs, zMr, I) (some (.inl res.1)) (zMs, zMr, res.2) 0 0 := by
  refine zM_of (by decide) (Nat.le_of_ble_eq_true rfl) (lv := [(0, .inr (.inr (some 0))), (1, .inl a1), (2, .inl a2)]) rfl ?_
  rw [fm_cost] at h
  refine zg_aload_n dd_144_0 rfl (j := 0) rfl ?_
  refine zg_iload_n dd_144_1 rfl (j := 1) rfl ?_
  refine zg_iconst dd_144_2 kI_0 ?_
  obtain ⟨r1, e2, h⟩ := z_bd h
  refine zg_invV_i (av := [.inl a1, .inl (0 : Int32)]) (st := []) (n := 2) dd_144_3 ca_145 zw_1150 zw_1152 zv_32 zMs_0 zcl_12 rfl (mt_fm_is e2) rfl ⟨by decide +kernel, by decide⟩ (Nat.le_of_ble_eq_true rfl) ?_
  refine zg_if_eq (tgt := 31) dd_144_6 (by decide) (fun q3 => ?_) (fun q3 => ?_)
  · replace h := z_t h q3
    refine zg_aload_n dd_144_31 rfl (j := 0) rfl ?_
    refine zg_ldc dd_144_32 zw_1139 ?_
    obtain ⟨r4, e5, h⟩ := z_bd h
    refine zg_invV_i (av := [.inl (-1000001 : Int32)]) (st := []) (n := 1) dd_144_34 ca_143 zw_1140 zw_1142 zv_31 zMs_0 zcl_12 rfl (mt_fm_finding e5) rfl ⟨by decide +kernel, by decide⟩ (Nat.le_of_ble_eq_true rfl) ?_
    obtain rfl := Option.some.inj h
    exact zg_iret dd_144_37 rfl
  · replace h := z_f h q3
    refine zg_iload_n dd_144_9 rfl (j := 2) rfl ?_
    refine zg_iconst dd_144_10 kI_1 ?_
    refine zg_bipush dd_144_11 kB_99 ?_
    obtain ⟨r6, e7, h⟩ := z_bd h
    refine zg_invS_i (av := [.inl a2, .inl (1 : Int32), .inl (99 : Int32)]) (st := []) (n := 3) dd_144_13 ca_142 zw_1136 zw_1137 (mt_fm_within e7) rfl ⟨by decide +kernel, by decide⟩ (Nat.le_of_ble_eq_true rfl) ?_
    refine zg_if_eq (tgt := 31) dd_144_16 (by decide) (fun q8 => ?_) (fun q8 => ?_)
    · replace h := z_t h q8
      refine zg_aload_n dd_144_31 rfl (j := 0) rfl ?_
      refine zg_ldc dd_144_32 zw_1139 ?_
      obtain ⟨r9, e10, h⟩ := z_bd h
      refine zg_invV_i (av := [.inl (-1000001 : Int32)]) (st := []) (n := 1) dd_144_34 ca_143 zw_1140 zw_1142 zv_31 zMs_0 zcl_12 rfl (mt_fm_finding e10) rfl ⟨by decide +kernel, by decide⟩ (Nat.le_of_ble_eq_true rfl) ?_
      obtain rfl := Option.some.inj h
      exact zg_iret dd_144_37 rfl
    · replace h := z_f h q8
      refine zg_aload_n dd_144_19 rfl (j := 0) rfl ?_
      refine zg_bipush dd_144_20 kB_10 ?_
      refine zg_iload_n dd_144_22 rfl (j := 1) rfl ?_
      refine zg_iadd dd_144_23 ?_
      refine zg_iload_n dd_144_24 rfl (j := 2) rfl ?_
      obtain ⟨r11, e12, h⟩ := z_bd h
      refine zg_invV_i (av := [.inl ((10 : Int32) + a1), .inl a2]) (st := []) (n := 2) dd_144_25 ca_146 zw_1154 zw_1156 zv_33 zMs_0 zcl_12 rfl (mt_fm_become e12) rfl ⟨by decide +kernel, by decide⟩ (Nat.le_of_ble_eq_true rfl) ?_
      refine zg_goto (tgt := 37) dd_144_28 (by decide) ?_
      obtain rfl := Option.some.inj h
      exact zg_iret dd_144_37 rfl
/-! TurnedLandModel.isEdge[0, None] -/
def fm_isEdge (I : zI) (a1 : Int32) : Option Int32 :=
  (fm_within I a1 (0 : Int32) (((4 : Int32) * (I 1 (0 : Int32).toNatClampNeg)) - (1 : Int32))).bind fun r1 =>
  z_guard (zbb r1) <|
  some r1
set_option maxRecDepth 20000 in
theorem mt_fm_isEdge {I : zI} {a1 : Int32} {res : Int32} (h : fm_isEdge I a1 = some res) : zM 2 ym_149 [.inr (.inr (some 0)), .inl a1] (zMs, zMr, I) (some (.inl res)) (zMs, zMr, I) 0 0 := by
  refine zM_of (by decide) (Nat.le_of_ble_eq_true rfl) (lv := [(0, .inr (.inr (some 0))), (1, .inl a1)]) rfl ?_
  rw [fm_isEdge] at h
  refine zg_iload_n dd_149_0 rfl (j := 1) rfl ?_
  refine zg_iconst dd_149_1 kI_0 ?_
  refine zg_iconst dd_149_2 kI_4 ?_
  refine zg_aload_n dd_149_3 rfl (j := 0) rfl ?_
  refine zg_getR dd_149_4 zl_M_9 zMs_0 rfl zMr_0_0 ?_
  refine zg_iconst dd_149_7 kI_0 ?_
  refine zg_iald dd_149_8 zMs_1 (by decide) ?_
  refine zg_imul dd_149_9 ?_
  refine zg_iconst dd_149_10 kI_1 ?_
  refine zg_isub dd_149_11 ?_
  obtain ⟨r1, e2, h⟩ := z_bd h
  refine zg_invS_i (av := [.inl a1, .inl (0 : Int32), .inl (((4 : Int32) * (I 1 (0 : Int32).toNatClampNeg)) - (1 : Int32))]) (st := []) (n := 3) dd_149_12 ca_142 zw_1136 zw_1137 (mt_fm_within e2) rfl ⟨by decide +kernel, by decide⟩ (Nat.le_of_ble_eq_true rfl) ?_
  obtain ⟨g3, h⟩ := z_gd h
  obtain rfl := Option.some.inj h
  exact zg_zret dd_149_15 rfl (zSt_bb g3).1
/-! TurnedLandModel.joinOf[0, None, None] -/
def fm_joinOf (I : zI) (a1 : Int32) (a2 : Int32) : Option Int32 :=
  z_guard (zb (((18 : Int32) + ((3 : Int32) * a1)) + a2) 448) <|
  some (I 1 (((18 : Int32) + ((3 : Int32) * a1)) + a2).toNatClampNeg)
set_option maxRecDepth 20000 in
theorem mt_fm_joinOf {I : zI} {a1 : Int32} {a2 : Int32} {res : Int32} (h : fm_joinOf I a1 a2 = some res) : zM 1 ym_151 [.inr (.inr (some 0)), .inl a1, .inl a2] (zMs, zMr, I) (some (.inl res)) (zMs, zMr, I) 0 0 := by
  refine zM_of (by decide) (Nat.le_of_ble_eq_true rfl) (lv := [(0, .inr (.inr (some 0))), (1, .inl a1), (2, .inl a2)]) rfl ?_
  rw [fm_joinOf] at h
  refine zg_aload_n dd_151_0 rfl (j := 0) rfl ?_
  refine zg_getR dd_151_1 zl_M_9 zMs_0 rfl zMr_0_0 ?_
  refine zg_bipush dd_151_4 kB_18 ?_
  refine zg_iconst dd_151_6 kI_3 ?_
  refine zg_iload_n dd_151_7 rfl (j := 1) rfl ?_
  refine zg_imul dd_151_8 ?_
  refine zg_iadd dd_151_9 ?_
  refine zg_iload_n dd_151_10 rfl (j := 2) rfl ?_
  refine zg_iadd dd_151_11 ?_
  obtain ⟨g1, h⟩ := z_gd h
  refine zg_iald dd_151_12 zMs_1 g1 ?_
  obtain rfl := Option.some.inj h
  exact zg_iret dd_151_13 rfl
/-! TurnedLandModel.joinAt[0, None] -/
def fm_joinAt_L4 (I : zI) : Nat → Int32 → Int32 → Int32 → Option Int32
  | 0, _, _, _ => none
  | nf + 1, v1, v2, v3 =>
    if (I 1 (1 : Int32).toNatClampNeg) ≤ v3 then
      some v2
    else
      (fm_joinOf I v3 (0 : Int32)).bind fun r2 =>
      if r2 = v1 then
        fm_joinAt_L4 I nf v1 v3 (v3 + (1 : Int32))
      else
        (fm_joinOf I v3 (1 : Int32)).bind fun r5 =>
        if r5 = v1 then
          fm_joinAt_L4 I nf v1 v3 (v3 + (1 : Int32))
        else
          fm_joinAt_L4 I nf v1 v2 (v3 + (1 : Int32))
def fm_joinAt (I : zI) (a1 : Int32) : Option Int32 :=
  fm_joinAt_L4 I
    100 a1 (-1 : Int32) (0 : Int32)
set_option maxRecDepth 20000 in
theorem lt_fm_joinAt_L4 {res : Int32} {I : zI} : ∀ (nf : Nat) (v1 : Int32) (v2 : Int32) (v3 : Int32), fm_joinAt_L4 I nf v1 v2 v3 = some res → zG 2 ym_150 0 0 (some (.inl res)) (zMs, zMr, I) zMs.length 4 [(0, .inr (.inr (some 0))), (1, .inl v1), (2, .inl v2), (3, .inl v3)] [] (zMs, zMr, I) 0 0 := by
  intro nf
  induction nf with
  | zero =>
    intro v1 v2 v3 h
    have h2 : none = some res := h
    cases h2
  | succ nf ih =>
    intro v1 v2 v3 h
    rw [fm_joinAt_L4] at h
    refine zg_iload_n dd_150_4 rfl (j := 3) rfl ?_
    refine zg_aload_n dd_150_5 rfl (j := 0) rfl ?_
    refine zg_getR dd_150_6 zl_M_9 zMs_0 rfl zMr_0_0 ?_
    refine zg_iconst dd_150_9 kI_1 ?_
    refine zg_iald dd_150_10 zMs_1 (by decide) ?_
    refine zg_icmp_ge (tgt := 46) dd_150_11 (by decide) (fun q1 => ?_) (fun q1 => ?_)
    · replace h := z_t h q1
      refine zg_iload_n dd_150_46 rfl (j := 2) rfl ?_
      obtain rfl := Option.some.inj h
      exact zg_iret dd_150_47 rfl
    · replace h := z_f h q1
      refine zg_aload_n dd_150_14 rfl (j := 0) rfl ?_
      refine zg_iload_n dd_150_15 rfl (j := 3) rfl ?_
      refine zg_iconst dd_150_16 kI_0 ?_
      obtain ⟨r2, e3, h⟩ := z_bd h
      refine zg_invV_i (av := [.inl v3, .inl (0 : Int32)]) (st := []) (n := 2) dd_150_17 ca_151 zw_1174 zw_1176 zv_37 zMs_0 zcl_12 rfl (mt_fm_joinOf e3) rfl ⟨by decide +kernel, by decide⟩ (Nat.le_of_ble_eq_true rfl) ?_
      refine zg_iload_n dd_150_20 rfl (j := 1) rfl ?_
      refine zg_icmp_eq (tgt := 34) dd_150_21 (by decide) (fun q4 => ?_) (fun q4 => ?_)
      · replace h := z_t h q4
        refine zg_iload_n dd_150_34 rfl (j := 3) rfl ?_
        refine zg_goto (tgt := 39) dd_150_35 (by decide) ?_
        refine zg_istore_n dd_150_39 rfl (Nat.le_of_ble_eq_true rfl) (lv' := [(2, .inl v3), (0, .inr (.inr (some 0))), (1, .inl v1), (3, .inl v3)]) rfl ?_
        refine zg_iinc dd_150_40 (j := 3) rfl (v := (v3 + (1 : Int32))) (by rw [kI_1]) (Nat.le_of_ble_eq_true rfl) (lv' := [(3, .inl (v3 + (1 : Int32))), (2, .inl v3), (0, .inr (.inr (some 0))), (1, .inl v1)]) rfl ?_
        refine zg_goto (tgt := 4) dd_150_43 (by decide) ?_
        refine zg_sub [2, 3, 1, 0] rfl ?_
        exact ih _ _ _ h
      · replace h := z_f h q4
        refine zg_aload_n dd_150_24 rfl (j := 0) rfl ?_
        refine zg_iload_n dd_150_25 rfl (j := 3) rfl ?_
        refine zg_iconst dd_150_26 kI_1 ?_
        obtain ⟨r5, e6, h⟩ := z_bd h
        refine zg_invV_i (av := [.inl v3, .inl (1 : Int32)]) (st := []) (n := 2) dd_150_27 ca_151 zw_1174 zw_1176 zv_37 zMs_0 zcl_12 rfl (mt_fm_joinOf e6) rfl ⟨by decide +kernel, by decide⟩ (Nat.le_of_ble_eq_true rfl) ?_
        refine zg_iload_n dd_150_30 rfl (j := 1) rfl ?_
        refine zg_icmp_ne (tgt := 38) dd_150_31 (by decide) (fun q7 => ?_) (fun q7 => ?_)
        · replace h := z_f h q7
          refine zg_iload_n dd_150_38 rfl (j := 2) rfl ?_
          refine zg_istore_n dd_150_39 rfl (Nat.le_of_ble_eq_true rfl) (lv' := [(2, .inl v2), (0, .inr (.inr (some 0))), (1, .inl v1), (3, .inl v3)]) rfl ?_
          refine zg_iinc dd_150_40 (j := 3) rfl (v := (v3 + (1 : Int32))) (by rw [kI_1]) (Nat.le_of_ble_eq_true rfl) (lv' := [(3, .inl (v3 + (1 : Int32))), (2, .inl v2), (0, .inr (.inr (some 0))), (1, .inl v1)]) rfl ?_
          refine zg_goto (tgt := 4) dd_150_43 (by decide) ?_
          refine zg_sub [2, 3, 1, 0] rfl ?_
          exact ih _ _ _ h
        · replace h := z_t h q7
          refine zg_iload_n dd_150_34 rfl (j := 3) rfl ?_
          refine zg_goto (tgt := 39) dd_150_35 (by decide) ?_
          refine zg_istore_n dd_150_39 rfl (Nat.le_of_ble_eq_true rfl) (lv' := [(2, .inl v3), (0, .inr (.inr (some 0))), (1, .inl v1), (3, .inl v3)]) rfl ?_
          refine zg_iinc dd_150_40 (j := 3) rfl (v := (v3 + (1 : Int32))) (by rw [kI_1]) (Nat.le_of_ble_eq_true rfl) (lv' := [(3, .inl (v3 + (1 : Int32))), (2, .inl v3), (0, .inr (.inr (some 0))), (1, .inl v1)]) rfl ?_
          refine zg_goto (tgt := 4) dd_150_43 (by decide) ?_
          refine zg_sub [2, 3, 1, 0] rfl ?_
          exact ih _ _ _ h
set_option maxRecDepth 20000 in
theorem mt_fm_joinAt {I : zI} {a1 : Int32} {res : Int32} (h : fm_joinAt I a1 = some res) : zM 2 ym_150 [.inr (.inr (some 0)), .inl a1] (zMs, zMr, I) (some (.inl res)) (zMs, zMr, I) 0 0 := by
  refine zM_of (by decide) (Nat.le_of_ble_eq_true rfl) (lv := [(0, .inr (.inr (some 0))), (1, .inl a1)]) rfl ?_
  rw [fm_joinAt] at h
  refine zg_iconst dd_150_0 kI_m1 ?_
  refine zg_istore_n dd_150_1 rfl (Nat.le_of_ble_eq_true rfl) (lv' := [(2, .inl (-1 : Int32)), (0, .inr (.inr (some 0))), (1, .inl a1)]) rfl ?_
  refine zg_iconst dd_150_2 kI_0 ?_
  refine zg_istore_n dd_150_3 rfl (Nat.le_of_ble_eq_true rfl) (lv' := [(3, .inl (0 : Int32)), (2, .inl (-1 : Int32)), (0, .inr (.inr (some 0))), (1, .inl a1)]) rfl ?_
  refine zg_sub [2, 3, 1, 0] rfl ?_
  refine lt_fm_joinAt_L4  _ _ _ _ h
/-! TurnedLandModel.whyNot[0, None, None, None] -/
def fm_whyNot (I : zI) (a1 : Int32) (a2 : Int32) (a3 : Int32) : Option Int32 :=
  (fm_isEdge I a1).bind fun r1 =>
  if r1 = 0 then
    some (-1000001 : Int32)
  else
    (fm_isEdge I a2).bind fun r4 =>
    if r4 = 0 then
      some (-1000001 : Int32)
    else
      if a1 = a2 then
        some (-1000001 : Int32)
      else
        (fm_within I a3 (0 : Int32) (1 : Int32)).bind fun r8 =>
        if r8 = 0 then
          some (-1000001 : Int32)
        else
          (fm_joinAt I a1).bind fun r11 =>
          if 0 ≤ r11 then
            some (-1000003 : Int32)
          else
            (fm_joinAt I a2).bind fun r14 =>
            if r14 < 0 then
              if (I 1 (1 : Int32).toNatClampNeg) = (16 : Int32) then
                some (-1000004 : Int32)
              else
                some (0 : Int32)
            else
              some (-1000003 : Int32)
set_option maxRecDepth 20000 in
theorem mt_fm_whyNot {I : zI} {a1 : Int32} {a2 : Int32} {a3 : Int32} {res : Int32} (h : fm_whyNot I a1 a2 a3 = some res) : zM 3 ym_148 [.inr (.inr (some 0)), .inl a1, .inl a2, .inl a3] (zMs, zMr, I) (some (.inl res)) (zMs, zMr, I) 0 0 := by
  refine zM_of (by decide) (Nat.le_of_ble_eq_true rfl) (lv := [(0, .inr (.inr (some 0))), (1, .inl a1), (2, .inl a2), (3, .inl a3)]) rfl ?_
  rw [fm_whyNot] at h
  refine zg_aload_n dd_148_0 rfl (j := 0) rfl ?_
  refine zg_iload_n dd_148_1 rfl (j := 1) rfl ?_
  obtain ⟨r1, e2, h⟩ := z_bd h
  refine zg_invV_i (av := [.inl a1]) (st := []) (n := 1) dd_148_2 ca_149 zw_1166 zw_1168 zv_35 zMs_0 zcl_12 rfl (mt_fm_isEdge e2) rfl ⟨by decide +kernel, by decide⟩ (Nat.le_of_ble_eq_true rfl) ?_
  refine zg_if_eq (tgt := 30) dd_148_5 (by decide) (fun q3 => ?_) (fun q3 => ?_)
  · replace h := z_t h q3
    refine zg_ldc dd_148_30 zw_1139 ?_
    obtain rfl := Option.some.inj h
    exact zg_iret dd_148_32 rfl
  · replace h := z_f h q3
    refine zg_aload_n dd_148_8 rfl (j := 0) rfl ?_
    refine zg_iload_n dd_148_9 rfl (j := 2) rfl ?_
    obtain ⟨r4, e5, h⟩ := z_bd h
    refine zg_invV_i (av := [.inl a2]) (st := []) (n := 1) dd_148_10 ca_149 zw_1166 zw_1168 zv_35 zMs_0 zcl_12 rfl (mt_fm_isEdge e5) rfl ⟨by decide +kernel, by decide⟩ (Nat.le_of_ble_eq_true rfl) ?_
    refine zg_if_eq (tgt := 30) dd_148_13 (by decide) (fun q6 => ?_) (fun q6 => ?_)
    · replace h := z_t h q6
      refine zg_ldc dd_148_30 zw_1139 ?_
      obtain rfl := Option.some.inj h
      exact zg_iret dd_148_32 rfl
    · replace h := z_f h q6
      refine zg_iload_n dd_148_16 rfl (j := 1) rfl ?_
      refine zg_iload_n dd_148_17 rfl (j := 2) rfl ?_
      refine zg_icmp_eq (tgt := 30) dd_148_18 (by decide) (fun q7 => ?_) (fun q7 => ?_)
      · replace h := z_t h q7
        refine zg_ldc dd_148_30 zw_1139 ?_
        obtain rfl := Option.some.inj h
        exact zg_iret dd_148_32 rfl
      · replace h := z_f h q7
        refine zg_iload_n dd_148_21 rfl (j := 3) rfl ?_
        refine zg_iconst dd_148_22 kI_0 ?_
        refine zg_iconst dd_148_23 kI_1 ?_
        obtain ⟨r8, e9, h⟩ := z_bd h
        refine zg_invS_i (av := [.inl a3, .inl (0 : Int32), .inl (1 : Int32)]) (st := []) (n := 3) dd_148_24 ca_142 zw_1136 zw_1137 (mt_fm_within e9) rfl ⟨by decide +kernel, by decide⟩ (Nat.le_of_ble_eq_true rfl) ?_
        refine zg_if_ne (tgt := 33) dd_148_27 (by decide) (fun q10 => ?_) (fun q10 => ?_)
        · replace h := z_f h q10
          refine zg_aload_n dd_148_33 rfl (j := 0) rfl ?_
          refine zg_iload_n dd_148_34 rfl (j := 1) rfl ?_
          obtain ⟨r11, e12, h⟩ := z_bd h
          refine zg_invV_i (av := [.inl a1]) (st := []) (n := 1) dd_148_35 ca_150 zw_1170 zw_1172 zv_36 zMs_0 zcl_12 rfl (mt_fm_joinAt e12) rfl ⟨by decide +kernel, by decide⟩ (Nat.le_of_ble_eq_true rfl) ?_
          refine zg_if_ge (tgt := 49) dd_148_38 (by decide) (fun q13 => ?_) (fun q13 => ?_)
          · replace h := z_t h q13
            refine zg_ldc dd_148_49 zw_1178 ?_
            refine zg_goto (tgt := 71) dd_148_51 (by decide) ?_
            obtain rfl := Option.some.inj h
            exact zg_iret dd_148_71 rfl
          · replace h := z_f h q13
            refine zg_aload_n dd_148_41 rfl (j := 0) rfl ?_
            refine zg_iload_n dd_148_42 rfl (j := 2) rfl ?_
            obtain ⟨r14, e15, h⟩ := z_bd h
            refine zg_invV_i (av := [.inl a2]) (st := []) (n := 1) dd_148_43 ca_150 zw_1170 zw_1172 zv_36 zMs_0 zcl_12 rfl (mt_fm_joinAt e15) rfl ⟨by decide +kernel, by decide⟩ (Nat.le_of_ble_eq_true rfl) ?_
            refine zg_if_lt (tgt := 54) dd_148_46 (by decide) (fun q16 => ?_) (fun q16 => ?_)
            · replace h := z_t h q16
              refine zg_aload_n dd_148_54 rfl (j := 0) rfl ?_
              refine zg_getR dd_148_55 zl_M_9 zMs_0 rfl zMr_0_0 ?_
              refine zg_iconst dd_148_58 kI_1 ?_
              refine zg_iald dd_148_59 zMs_1 (by decide) ?_
              refine zg_bipush dd_148_60 kB_16 ?_
              refine zg_icmp_ne (tgt := 70) dd_148_62 (by decide) (fun q17 => ?_) (fun q17 => ?_)
              · replace h := z_f h q17
                refine zg_iconst dd_148_70 kI_0 ?_
                obtain rfl := Option.some.inj h
                exact zg_iret dd_148_71 rfl
              · replace h := z_t h q17
                refine zg_ldc dd_148_65 zw_1145 ?_
                refine zg_goto (tgt := 71) dd_148_67 (by decide) ?_
                obtain rfl := Option.some.inj h
                exact zg_iret dd_148_71 rfl
            · replace h := z_f h q16
              refine zg_ldc dd_148_49 zw_1178 ?_
              refine zg_goto (tgt := 71) dd_148_51 (by decide) ?_
              obtain rfl := Option.some.inj h
              exact zg_iret dd_148_71 rfl
        · replace h := z_t h q10
          refine zg_ldc dd_148_30 zw_1139 ?_
          obtain rfl := Option.some.inj h
          exact zg_iret dd_148_32 rfl
/-! TurnedLandModel.joined[0, None, None, None] -/
def fm_joined (I : zI) (a1 : Int32) (a2 : Int32) (a3 : Int32) : Option (Int32 × zI) :=
  z_guard (zb (((18 : Int32) + ((3 : Int32) * (I 1 (1 : Int32).toNatClampNeg))) + (0 : Int32)) 448) <|
  z_guard (zb (((18 : Int32) + ((3 : Int32) * (I 1 (1 : Int32).toNatClampNeg))) + (1 : Int32)) 448) <|
  z_guard (zb (((18 : Int32) + ((3 : Int32) * (I 1 (1 : Int32).toNatClampNeg))) + (2 : Int32)) 448) <|
  some ((I 1 (1 : Int32).toNatClampNeg), (zup (zup (zup (zup I 1 (((18 : Int32) + ((3 : Int32) * (I 1 (1 : Int32).toNatClampNeg))) + (0 : Int32)).toNatClampNeg a1) 1 (((18 : Int32) + ((3 : Int32) * (I 1 (1 : Int32).toNatClampNeg))) + (1 : Int32)).toNatClampNeg a2) 1 (((18 : Int32) + ((3 : Int32) * (I 1 (1 : Int32).toNatClampNeg))) + (2 : Int32)).toNatClampNeg a3) 1 (1 : Int32).toNatClampNeg (((zup (zup (zup I 1 (((18 : Int32) + ((3 : Int32) * (I 1 (1 : Int32).toNatClampNeg))) + (0 : Int32)).toNatClampNeg a1) 1 (((18 : Int32) + ((3 : Int32) * (I 1 (1 : Int32).toNatClampNeg))) + (1 : Int32)).toNatClampNeg a2) 1 (((18 : Int32) + ((3 : Int32) * (I 1 (1 : Int32).toNatClampNeg))) + (2 : Int32)).toNatClampNeg a3) 1 (1 : Int32).toNatClampNeg) + (1 : Int32))))
set_option maxRecDepth 20000 in
theorem mt_fm_joined {I : zI} {a1 : Int32} {a2 : Int32} {a3 : Int32} {res : (Int32 × zI)} (h : fm_joined I a1 a2 a3 = some res) : zM 1 ym_152 [.inr (.inr (some 0)), .inl a1, .inl a2, .inl a3] (zMs, zMr, I) (some (.inl res.1)) (zMs, zMr, res.2) 0 0 := by
  refine zM_of (by decide) (Nat.le_of_ble_eq_true rfl) (lv := [(0, .inr (.inr (some 0))), (1, .inl a1), (2, .inl a2), (3, .inl a3)]) rfl ?_
  rw [fm_joined] at h
  refine zg_aload_n dd_152_0 rfl (j := 0) rfl ?_
  refine zg_getR dd_152_1 zl_M_9 zMs_0 rfl zMr_0_0 ?_
  refine zg_iconst dd_152_4 kI_1 ?_
  refine zg_iald dd_152_5 zMs_1 (by decide) ?_
  refine zg_istore dd_152_6 (Nat.le_of_ble_eq_true rfl) (lv' := [(4, .inl (I 1 (1 : Int32).toNatClampNeg)), (0, .inr (.inr (some 0))), (1, .inl a1), (2, .inl a2), (3, .inl a3)]) rfl ?_
  refine zg_aload_n dd_152_8 rfl (j := 1) rfl ?_
  refine zg_getR dd_152_9 zl_M_9 zMs_0 rfl zMr_0_0 ?_
  refine zg_bipush dd_152_12 kB_18 ?_
  refine zg_iconst dd_152_14 kI_3 ?_
  refine zg_iload dd_152_15 (j := 0) rfl ?_
  refine zg_imul dd_152_17 ?_
  refine zg_iadd dd_152_18 ?_
  refine zg_iconst dd_152_19 kI_0 ?_
  refine zg_iadd dd_152_20 ?_
  refine zg_iload_n dd_152_21 rfl (j := 2) rfl ?_
  obtain ⟨g1, h⟩ := z_gd h
  refine zg_iast dd_152_22 zMs_1 g1 ?_
  refine zg_aload_n dd_152_23 rfl (j := 1) rfl ?_
  refine zg_getR dd_152_24 zl_M_9 zMs_0 rfl zMr_0_0 ?_
  refine zg_bipush dd_152_27 kB_18 ?_
  refine zg_iconst dd_152_29 kI_3 ?_
  refine zg_iload dd_152_30 (j := 0) rfl ?_
  refine zg_imul dd_152_32 ?_
  refine zg_iadd dd_152_33 ?_
  refine zg_iconst dd_152_34 kI_1 ?_
  refine zg_iadd dd_152_35 ?_
  refine zg_iload_n dd_152_36 rfl (j := 3) rfl ?_
  obtain ⟨g2, h⟩ := z_gd h
  refine zg_iast dd_152_37 zMs_1 g2 ?_
  refine zg_aload_n dd_152_38 rfl (j := 1) rfl ?_
  refine zg_getR dd_152_39 zl_M_9 zMs_0 rfl zMr_0_0 ?_
  refine zg_bipush dd_152_42 kB_18 ?_
  refine zg_iconst dd_152_44 kI_3 ?_
  refine zg_iload dd_152_45 (j := 0) rfl ?_
  refine zg_imul dd_152_47 ?_
  refine zg_iadd dd_152_48 ?_
  refine zg_iconst dd_152_49 kI_2 ?_
  refine zg_iadd dd_152_50 ?_
  refine zg_iload_n dd_152_51 rfl (j := 4) rfl ?_
  obtain ⟨g3, h⟩ := z_gd h
  refine zg_iast dd_152_52 zMs_1 g3 ?_
  refine zg_aload_n dd_152_53 rfl (j := 1) rfl ?_
  refine zg_getR dd_152_54 zl_M_9 zMs_0 rfl zMr_0_0 ?_
  refine zg_iconst dd_152_57 kI_1 ?_
  refine zg_dup2 dd_152_58 rfl rfl ?_
  refine zg_iald dd_152_59 zMs_1 (by decide) ?_
  refine zg_iconst dd_152_60 kI_1 ?_
  refine zg_iadd dd_152_61 ?_
  refine zg_iast dd_152_62 zMs_1 (by decide) ?_
  refine zg_iload dd_152_63 (j := 0) rfl ?_
  obtain rfl := Option.some.inj h
  exact zg_iret dd_152_65 rfl
/-! TurnedLandModel.join(0, None, None, None) -/
def fm_join (I : zI) (a1 : Int32) (a2 : Int32) (a3 : Int32) : Option (Int32 × zI) :=
  (fm_whyNot I a1 a2 a3).bind fun r1 =>
  if r1 = 0 then
    (fm_joined I a1 a2 a3).bind fun r4 =>
    some (r4.1, r4.2)
  else
    (fm_finding I r1).bind fun r6 =>
    some (r6.1, r6.2)
set_option maxRecDepth 20000 in
theorem mt_fm_join {I : zI} {a1 : Int32} {a2 : Int32} {a3 : Int32} {res : (Int32 × zI)} (h : fm_join I a1 a2 a3 = some res) : zM 4 ym_147 [.inr (.inr (some 0)), .inl a1, .inl a2, .inl a3] (zMs, zMr, I) (some (.inl res.1)) (zMs, zMr, res.2) 0 0 := by
  refine zM_of (by decide) (Nat.le_of_ble_eq_true rfl) (lv := [(0, .inr (.inr (some 0))), (1, .inl a1), (2, .inl a2), (3, .inl a3)]) rfl ?_
  rw [fm_join] at h
  refine zg_aload_n dd_147_0 rfl (j := 0) rfl ?_
  refine zg_iload_n dd_147_1 rfl (j := 1) rfl ?_
  refine zg_iload_n dd_147_2 rfl (j := 2) rfl ?_
  refine zg_iload_n dd_147_3 rfl (j := 3) rfl ?_
  obtain ⟨r1, e2, h⟩ := z_bd h
  refine zg_invV_i (av := [.inl a1, .inl a2, .inl a3]) (st := []) (n := 3) dd_147_4 ca_148 zw_1162 zw_1164 zv_34 zMs_0 zcl_12 rfl (mt_fm_whyNot e2) rfl ⟨by decide +kernel, by decide⟩ (Nat.le_of_ble_eq_true rfl) ?_
  refine zg_istore dd_147_7 (Nat.le_of_ble_eq_true rfl) (lv' := [(4, .inl r1), (0, .inr (.inr (some 0))), (1, .inl a1), (2, .inl a2), (3, .inl a3)]) rfl ?_
  refine zg_iload dd_147_9 (j := 0) rfl ?_
  refine zg_if_eq (tgt := 23) dd_147_11 (by decide) (fun q3 => ?_) (fun q3 => ?_)
  · replace h := z_t h q3
    refine zg_aload_n dd_147_23 rfl (j := 1) rfl ?_
    refine zg_iload_n dd_147_24 rfl (j := 2) rfl ?_
    refine zg_iload_n dd_147_25 rfl (j := 3) rfl ?_
    refine zg_iload_n dd_147_26 rfl (j := 4) rfl ?_
    obtain ⟨r4, e5, h⟩ := z_bd h
    refine zg_invV_i (av := [.inl a1, .inl a2, .inl a3]) (st := []) (n := 3) dd_147_27 ca_152 zw_1179 zw_1181 zv_38 zMs_0 zcl_12 rfl (mt_fm_joined e5) rfl ⟨by decide +kernel, by decide⟩ (Nat.le_of_ble_eq_true rfl) ?_
    obtain rfl := Option.some.inj h
    exact zg_iret dd_147_30 rfl
  · replace h := z_f h q3
    refine zg_aload_n dd_147_14 rfl (j := 1) rfl ?_
    refine zg_iload dd_147_15 (j := 0) rfl ?_
    obtain ⟨r6, e7, h⟩ := z_bd h
    refine zg_invV_i (av := [.inl r1]) (st := []) (n := 1) dd_147_17 ca_143 zw_1140 zw_1142 zv_31 zMs_0 zcl_12 rfl (mt_fm_finding e7) rfl ⟨by decide +kernel, by decide⟩ (Nat.le_of_ble_eq_true rfl) ?_
    refine zg_goto (tgt := 30) dd_147_20 (by decide) ?_
    obtain rfl := Option.some.inj h
    exact zg_iret dd_147_30 rfl
/-! TurnedLandModel.joinIs(0, None, None) -/
def fm_joinIs (I : zI) (a1 : Int32) (a2 : Int32) : Option (Int32 × zI) :=
  (fm_is I a1 (1 : Int32)).bind fun r1 =>
  if r1 = 0 then
    (fm_finding I (-1000001 : Int32)).bind fun r4 =>
    some (r4.1, r4.2)
  else
    (fm_within I a2 (0 : Int32) (2 : Int32)).bind fun r6 =>
    if r6 = 0 then
      (fm_finding I (-1000001 : Int32)).bind fun r9 =>
      some (r9.1, r9.2)
    else
      (fm_joinOf I a1 a2).bind fun r11 =>
      some (r11, I)
set_option maxRecDepth 20000 in
theorem mt_fm_joinIs {I : zI} {a1 : Int32} {a2 : Int32} {res : (Int32 × zI)} (h : fm_joinIs I a1 a2 = some res) : zM 3 ym_153 [.inr (.inr (some 0)), .inl a1, .inl a2] (zMs, zMr, I) (some (.inl res.1)) (zMs, zMr, res.2) 0 0 := by
  refine zM_of (by decide) (Nat.le_of_ble_eq_true rfl) (lv := [(0, .inr (.inr (some 0))), (1, .inl a1), (2, .inl a2)]) rfl ?_
  rw [fm_joinIs] at h
  refine zg_aload_n dd_153_0 rfl (j := 0) rfl ?_
  refine zg_iload_n dd_153_1 rfl (j := 1) rfl ?_
  refine zg_iconst dd_153_2 kI_1 ?_
  obtain ⟨r1, e2, h⟩ := z_bd h
  refine zg_invV_i (av := [.inl a1, .inl (1 : Int32)]) (st := []) (n := 2) dd_153_3 ca_145 zw_1150 zw_1152 zv_32 zMs_0 zcl_12 rfl (mt_fm_is e2) rfl ⟨by decide +kernel, by decide⟩ (Nat.le_of_ble_eq_true rfl) ?_
  refine zg_if_eq (tgt := 27) dd_153_6 (by decide) (fun q3 => ?_) (fun q3 => ?_)
  · replace h := z_t h q3
    refine zg_aload_n dd_153_27 rfl (j := 0) rfl ?_
    refine zg_ldc dd_153_28 zw_1139 ?_
    obtain ⟨r4, e5, h⟩ := z_bd h
    refine zg_invV_i (av := [.inl (-1000001 : Int32)]) (st := []) (n := 1) dd_153_30 ca_143 zw_1140 zw_1142 zv_31 zMs_0 zcl_12 rfl (mt_fm_finding e5) rfl ⟨by decide +kernel, by decide⟩ (Nat.le_of_ble_eq_true rfl) ?_
    obtain rfl := Option.some.inj h
    exact zg_iret dd_153_33 rfl
  · replace h := z_f h q3
    refine zg_iload_n dd_153_9 rfl (j := 2) rfl ?_
    refine zg_iconst dd_153_10 kI_0 ?_
    refine zg_iconst dd_153_11 kI_2 ?_
    obtain ⟨r6, e7, h⟩ := z_bd h
    refine zg_invS_i (av := [.inl a2, .inl (0 : Int32), .inl (2 : Int32)]) (st := []) (n := 3) dd_153_12 ca_142 zw_1136 zw_1137 (mt_fm_within e7) rfl ⟨by decide +kernel, by decide⟩ (Nat.le_of_ble_eq_true rfl) ?_
    refine zg_if_eq (tgt := 27) dd_153_15 (by decide) (fun q8 => ?_) (fun q8 => ?_)
    · replace h := z_t h q8
      refine zg_aload_n dd_153_27 rfl (j := 0) rfl ?_
      refine zg_ldc dd_153_28 zw_1139 ?_
      obtain ⟨r9, e10, h⟩ := z_bd h
      refine zg_invV_i (av := [.inl (-1000001 : Int32)]) (st := []) (n := 1) dd_153_30 ca_143 zw_1140 zw_1142 zv_31 zMs_0 zcl_12 rfl (mt_fm_finding e10) rfl ⟨by decide +kernel, by decide⟩ (Nat.le_of_ble_eq_true rfl) ?_
      obtain rfl := Option.some.inj h
      exact zg_iret dd_153_33 rfl
    · replace h := z_f h q8
      refine zg_aload_n dd_153_18 rfl (j := 0) rfl ?_
      refine zg_iload_n dd_153_19 rfl (j := 1) rfl ?_
      refine zg_iload_n dd_153_20 rfl (j := 2) rfl ?_
      obtain ⟨r11, e12, h⟩ := z_bd h
      refine zg_invV_i (av := [.inl a1, .inl a2]) (st := []) (n := 2) dd_153_21 ca_151 zw_1174 zw_1176 zv_37 zMs_0 zcl_12 rfl (mt_fm_joinOf e12) rfl ⟨by decide +kernel, by decide⟩ (Nat.le_of_ble_eq_true rfl) ?_
      refine zg_goto (tgt := 33) dd_153_24 (by decide) ?_
      obtain rfl := Option.some.inj h
      exact zg_iret dd_153_33 rfl
/-! TurnedLandModel.turn(0, None, None) -/
def fm_turn (I : zI) (a1 : Int32) (a2 : Int32) : Option (Int32 × zI) :=
  (fm_is I a1 (1 : Int32)).bind fun r1 =>
  if r1 = 0 then
    (fm_finding I (-1000001 : Int32)).bind fun r4 =>
    some (r4.1, r4.2)
  else
    (fm_within I a2 (0 : Int32) (1 : Int32)).bind fun r6 =>
    if r6 = 0 then
      (fm_finding I (-1000001 : Int32)).bind fun r9 =>
      some (r9.1, r9.2)
    else
      (fm_become I (((18 : Int32) + ((3 : Int32) * a1)) + (2 : Int32)) a2).bind fun r11 =>
      some (r11.1, r11.2)
set_option maxRecDepth 20000 in
theorem mt_fm_turn {I : zI} {a1 : Int32} {a2 : Int32} {res : (Int32 × zI)} (h : fm_turn I a1 a2 = some res) : zM 3 ym_154 [.inr (.inr (some 0)), .inl a1, .inl a2] (zMs, zMr, I) (some (.inl res.1)) (zMs, zMr, res.2) 0 0 := by
  refine zM_of (by decide) (Nat.le_of_ble_eq_true rfl) (lv := [(0, .inr (.inr (some 0))), (1, .inl a1), (2, .inl a2)]) rfl ?_
  rw [fm_turn] at h
  refine zg_aload_n dd_154_0 rfl (j := 0) rfl ?_
  refine zg_iload_n dd_154_1 rfl (j := 1) rfl ?_
  refine zg_iconst dd_154_2 kI_1 ?_
  obtain ⟨r1, e2, h⟩ := z_bd h
  refine zg_invV_i (av := [.inl a1, .inl (1 : Int32)]) (st := []) (n := 2) dd_154_3 ca_145 zw_1150 zw_1152 zv_32 zMs_0 zcl_12 rfl (mt_fm_is e2) rfl ⟨by decide +kernel, by decide⟩ (Nat.le_of_ble_eq_true rfl) ?_
  refine zg_if_eq (tgt := 34) dd_154_6 (by decide) (fun q3 => ?_) (fun q3 => ?_)
  · replace h := z_t h q3
    refine zg_aload_n dd_154_34 rfl (j := 0) rfl ?_
    refine zg_ldc dd_154_35 zw_1139 ?_
    obtain ⟨r4, e5, h⟩ := z_bd h
    refine zg_invV_i (av := [.inl (-1000001 : Int32)]) (st := []) (n := 1) dd_154_37 ca_143 zw_1140 zw_1142 zv_31 zMs_0 zcl_12 rfl (mt_fm_finding e5) rfl ⟨by decide +kernel, by decide⟩ (Nat.le_of_ble_eq_true rfl) ?_
    obtain rfl := Option.some.inj h
    exact zg_iret dd_154_40 rfl
  · replace h := z_f h q3
    refine zg_iload_n dd_154_9 rfl (j := 2) rfl ?_
    refine zg_iconst dd_154_10 kI_0 ?_
    refine zg_iconst dd_154_11 kI_1 ?_
    obtain ⟨r6, e7, h⟩ := z_bd h
    refine zg_invS_i (av := [.inl a2, .inl (0 : Int32), .inl (1 : Int32)]) (st := []) (n := 3) dd_154_12 ca_142 zw_1136 zw_1137 (mt_fm_within e7) rfl ⟨by decide +kernel, by decide⟩ (Nat.le_of_ble_eq_true rfl) ?_
    refine zg_if_eq (tgt := 34) dd_154_15 (by decide) (fun q8 => ?_) (fun q8 => ?_)
    · replace h := z_t h q8
      refine zg_aload_n dd_154_34 rfl (j := 0) rfl ?_
      refine zg_ldc dd_154_35 zw_1139 ?_
      obtain ⟨r9, e10, h⟩ := z_bd h
      refine zg_invV_i (av := [.inl (-1000001 : Int32)]) (st := []) (n := 1) dd_154_37 ca_143 zw_1140 zw_1142 zv_31 zMs_0 zcl_12 rfl (mt_fm_finding e10) rfl ⟨by decide +kernel, by decide⟩ (Nat.le_of_ble_eq_true rfl) ?_
      obtain rfl := Option.some.inj h
      exact zg_iret dd_154_40 rfl
    · replace h := z_f h q8
      refine zg_aload_n dd_154_18 rfl (j := 0) rfl ?_
      refine zg_bipush dd_154_19 kB_18 ?_
      refine zg_iconst dd_154_21 kI_3 ?_
      refine zg_iload_n dd_154_22 rfl (j := 1) rfl ?_
      refine zg_imul dd_154_23 ?_
      refine zg_iadd dd_154_24 ?_
      refine zg_iconst dd_154_25 kI_2 ?_
      refine zg_iadd dd_154_26 ?_
      refine zg_iload_n dd_154_27 rfl (j := 2) rfl ?_
      obtain ⟨r11, e12, h⟩ := z_bd h
      refine zg_invV_i (av := [.inl (((18 : Int32) + ((3 : Int32) * a1)) + (2 : Int32)), .inl a2]) (st := []) (n := 2) dd_154_28 ca_146 zw_1154 zw_1156 zv_33 zMs_0 zcl_12 rfl (mt_fm_become e12) rfl ⟨by decide +kernel, by decide⟩ (Nat.le_of_ble_eq_true rfl) ?_
      refine zg_goto (tgt := 40) dd_154_31 (by decide) ?_
      obtain rfl := Option.some.inj h
      exact zg_iret dd_154_40 rfl
/-! TurnedLandModel.part(0,) -/
def fm_part (I : zI) : Option (Int32 × zI) :=
  if (I 1 (1 : Int32).toNatClampNeg) = 0 then
    (fm_finding I (-1000003 : Int32)).bind fun r2 =>
    some (r2.1, r2.2)
  else
    some (((zup (zup I 1 (1 : Int32).toNatClampNeg ((I 1 (1 : Int32).toNatClampNeg) - (1 : Int32))) 1 (9 : Int32).toNatClampNeg (((zup I 1 (1 : Int32).toNatClampNeg ((I 1 (1 : Int32).toNatClampNeg) - (1 : Int32))) 1 (9 : Int32).toNatClampNeg) &&& (((1 : Int32) <<< (((zup I 1 (1 : Int32).toNatClampNeg ((I 1 (1 : Int32).toNatClampNeg) - (1 : Int32))) 1 (1 : Int32).toNatClampNeg) &&& 31)) ^^^ (-1 : Int32)))) 1 (1 : Int32).toNatClampNeg), (zup (zup I 1 (1 : Int32).toNatClampNeg ((I 1 (1 : Int32).toNatClampNeg) - (1 : Int32))) 1 (9 : Int32).toNatClampNeg (((zup I 1 (1 : Int32).toNatClampNeg ((I 1 (1 : Int32).toNatClampNeg) - (1 : Int32))) 1 (9 : Int32).toNatClampNeg) &&& (((1 : Int32) <<< (((zup I 1 (1 : Int32).toNatClampNeg ((I 1 (1 : Int32).toNatClampNeg) - (1 : Int32))) 1 (1 : Int32).toNatClampNeg) &&& 31)) ^^^ (-1 : Int32)))))
set_option maxRecDepth 20000 in
theorem mt_fm_part {I : zI} {res : (Int32 × zI)} (h : fm_part I = some res) : zM 2 ym_155 [.inr (.inr (some 0))] (zMs, zMr, I) (some (.inl res.1)) (zMs, zMr, res.2) 0 0 := by
  refine zM_of (by decide) (Nat.le_of_ble_eq_true rfl) (lv := [(0, .inr (.inr (some 0)))]) rfl ?_
  rw [fm_part] at h
  refine zg_aload_n dd_155_0 rfl (j := 0) rfl ?_
  refine zg_getR dd_155_1 zl_M_9 zMs_0 rfl zMr_0_0 ?_
  refine zg_iconst dd_155_4 kI_1 ?_
  refine zg_iald dd_155_5 zMs_1 (by decide) ?_
  refine zg_if_ne (tgt := 16) dd_155_6 (by decide) (fun q1 => ?_) (fun q1 => ?_)
  · replace h := z_f h q1
    refine zg_aload_n dd_155_16 rfl (j := 0) rfl ?_
    refine zg_getR dd_155_17 zl_M_9 zMs_0 rfl zMr_0_0 ?_
    refine zg_iconst dd_155_20 kI_1 ?_
    refine zg_dup2 dd_155_21 rfl rfl ?_
    refine zg_iald dd_155_22 zMs_1 (by decide) ?_
    refine zg_iconst dd_155_23 kI_1 ?_
    refine zg_isub dd_155_24 ?_
    refine zg_iast dd_155_25 zMs_1 (by decide) ?_
    refine zg_aload_n dd_155_26 rfl (j := 0) rfl ?_
    refine zg_getR dd_155_27 zl_M_9 zMs_0 rfl zMr_0_0 ?_
    refine zg_bipush dd_155_30 kB_9 ?_
    refine zg_dup2 dd_155_32 rfl rfl ?_
    refine zg_iald dd_155_33 zMs_1 (by decide) ?_
    refine zg_iconst dd_155_34 kI_1 ?_
    refine zg_aload_n dd_155_35 rfl (j := 0) rfl ?_
    refine zg_getR dd_155_36 zl_M_9 zMs_0 rfl zMr_0_0 ?_
    refine zg_iconst dd_155_39 kI_1 ?_
    refine zg_iald dd_155_40 zMs_1 (by decide) ?_
    refine zg_ishl dd_155_41 ?_
    refine zg_iconst dd_155_42 kI_m1 ?_
    refine zg_ixor dd_155_43 ?_
    refine zg_iand dd_155_44 ?_
    refine zg_iast dd_155_45 zMs_1 (by decide) ?_
    refine zg_aload_n dd_155_46 rfl (j := 0) rfl ?_
    refine zg_getR dd_155_47 zl_M_9 zMs_0 rfl zMr_0_0 ?_
    refine zg_iconst dd_155_50 kI_1 ?_
    refine zg_iald dd_155_51 zMs_1 (by decide) ?_
    obtain rfl := Option.some.inj h
    exact zg_iret dd_155_52 rfl
  · replace h := z_t h q1
    refine zg_aload_n dd_155_9 rfl (j := 0) rfl ?_
    refine zg_ldc dd_155_10 zw_1178 ?_
    obtain ⟨r2, e3, h⟩ := z_bd h
    refine zg_invV_i (av := [.inl (-1000003 : Int32)]) (st := []) (n := 1) dd_155_12 ca_143 zw_1140 zw_1142 zv_31 zMs_0 zcl_12 rfl (mt_fm_finding e3) rfl ⟨by decide +kernel, by decide⟩ (Nat.le_of_ble_eq_true rfl) ?_
    obtain rfl := Option.some.inj h
    exact zg_iret dd_155_15 rfl
/-! TurnedLandModel.otherOf[0, None, None] -/
def fm_otherOf (I : zI) (a1 : Int32) (a2 : Int32) : Option Int32 :=
  (fm_joinOf I a1 (0 : Int32)).bind fun r1 =>
  if r1 = a2 then
    (fm_joinOf I a1 (1 : Int32)).bind fun r6 =>
    some r6
  else
    (fm_joinOf I a1 (0 : Int32)).bind fun r4 =>
    some r4
set_option maxRecDepth 20000 in
theorem mt_fm_otherOf {I : zI} {a1 : Int32} {a2 : Int32} {res : Int32} (h : fm_otherOf I a1 a2 = some res) : zM 2 ym_157 [.inr (.inr (some 0)), .inl a1, .inl a2] (zMs, zMr, I) (some (.inl res)) (zMs, zMr, I) 0 0 := by
  refine zM_of (by decide) (Nat.le_of_ble_eq_true rfl) (lv := [(0, .inr (.inr (some 0))), (1, .inl a1), (2, .inl a2)]) rfl ?_
  rw [fm_otherOf] at h
  refine zg_aload_n dd_157_0 rfl (j := 0) rfl ?_
  refine zg_iload_n dd_157_1 rfl (j := 1) rfl ?_
  refine zg_iconst dd_157_2 kI_0 ?_
  obtain ⟨r1, e2, h⟩ := z_bd h
  refine zg_invV_i (av := [.inl a1, .inl (0 : Int32)]) (st := []) (n := 2) dd_157_3 ca_151 zw_1174 zw_1176 zv_37 zMs_0 zcl_12 rfl (mt_fm_joinOf e2) rfl ⟨by decide +kernel, by decide⟩ (Nat.le_of_ble_eq_true rfl) ?_
  refine zg_iload_n dd_157_6 rfl (j := 2) rfl ?_
  refine zg_icmp_ne (tgt := 19) dd_157_7 (by decide) (fun q3 => ?_) (fun q3 => ?_)
  · replace h := z_f h q3
    refine zg_aload_n dd_157_19 rfl (j := 0) rfl ?_
    refine zg_iload_n dd_157_20 rfl (j := 1) rfl ?_
    refine zg_iconst dd_157_21 kI_0 ?_
    obtain ⟨r4, e5, h⟩ := z_bd h
    refine zg_invV_i (av := [.inl a1, .inl (0 : Int32)]) (st := []) (n := 2) dd_157_22 ca_151 zw_1174 zw_1176 zv_37 zMs_0 zcl_12 rfl (mt_fm_joinOf e5) rfl ⟨by decide +kernel, by decide⟩ (Nat.le_of_ble_eq_true rfl) ?_
    obtain rfl := Option.some.inj h
    exact zg_iret dd_157_25 rfl
  · replace h := z_t h q3
    refine zg_aload_n dd_157_10 rfl (j := 0) rfl ?_
    refine zg_iload_n dd_157_11 rfl (j := 1) rfl ?_
    refine zg_iconst dd_157_12 kI_1 ?_
    obtain ⟨r6, e7, h⟩ := z_bd h
    refine zg_invV_i (av := [.inl a1, .inl (1 : Int32)]) (st := []) (n := 2) dd_157_13 ca_151 zw_1174 zw_1176 zv_37 zMs_0 zcl_12 rfl (mt_fm_joinOf e7) rfl ⟨by decide +kernel, by decide⟩ (Nat.le_of_ble_eq_true rfl) ?_
    refine zg_goto (tgt := 25) dd_157_16 (by decide) ?_
    obtain rfl := Option.some.inj h
    exact zg_iret dd_157_25 rfl
/-! TurnedLandModel.across(0, None) -/
def fm_across (I : zI) (a1 : Int32) : Option (Int32 × zI) :=
  (fm_isEdge I a1).bind fun r1 =>
  if r1 = 0 then
    (fm_finding I (-1000001 : Int32)).bind fun r11 =>
    some (r11.1, r11.2)
  else
    (fm_joinAt I a1).bind fun r4 =>
    if 0 ≤ r4 then
      (fm_otherOf I r4 a1).bind fun r7 =>
      some (r7, I)
    else
      (fm_finding I (-1000002 : Int32)).bind fun r9 =>
      some (r9.1, r9.2)
set_option maxRecDepth 20000 in
theorem mt_fm_across {I : zI} {a1 : Int32} {res : (Int32 × zI)} (h : fm_across I a1 = some res) : zM 3 ym_156 [.inr (.inr (some 0)), .inl a1] (zMs, zMr, I) (some (.inl res.1)) (zMs, zMr, res.2) 0 0 := by
  refine zM_of (by decide) (Nat.le_of_ble_eq_true rfl) (lv := [(0, .inr (.inr (some 0))), (1, .inl a1)]) rfl ?_
  rw [fm_across] at h
  refine zg_aload_n dd_156_0 rfl (j := 0) rfl ?_
  refine zg_iload_n dd_156_1 rfl (j := 1) rfl ?_
  obtain ⟨r1, e2, h⟩ := z_bd h
  refine zg_invV_i (av := [.inl a1]) (st := []) (n := 1) dd_156_2 ca_149 zw_1166 zw_1168 zv_35 zMs_0 zcl_12 rfl (mt_fm_isEdge e2) rfl ⟨by decide +kernel, by decide⟩ (Nat.le_of_ble_eq_true rfl) ?_
  refine zg_if_ne (tgt := 15) dd_156_5 (by decide) (fun q3 => ?_) (fun q3 => ?_)
  · replace h := z_f h q3
    refine zg_aload_n dd_156_15 rfl (j := 0) rfl ?_
    refine zg_iload_n dd_156_16 rfl (j := 1) rfl ?_
    obtain ⟨r4, e5, h⟩ := z_bd h
    refine zg_invV_i (av := [.inl a1]) (st := []) (n := 1) dd_156_17 ca_150 zw_1170 zw_1172 zv_36 zMs_0 zcl_12 rfl (mt_fm_joinAt e5) rfl ⟨by decide +kernel, by decide⟩ (Nat.le_of_ble_eq_true rfl) ?_
    refine zg_istore_n dd_156_20 rfl (Nat.le_of_ble_eq_true rfl) (lv' := [(2, .inl r4), (0, .inr (.inr (some 0))), (1, .inl a1)]) rfl ?_
    refine zg_iload_n dd_156_21 rfl (j := 0) rfl ?_
    refine zg_if_ge (tgt := 34) dd_156_22 (by decide) (fun q6 => ?_) (fun q6 => ?_)
    · replace h := z_t h q6
      refine zg_aload_n dd_156_34 rfl (j := 1) rfl ?_
      refine zg_iload_n dd_156_35 rfl (j := 0) rfl ?_
      refine zg_iload_n dd_156_36 rfl (j := 2) rfl ?_
      obtain ⟨r7, e8, h⟩ := z_bd h
      refine zg_invV_i (av := [.inl r4, .inl a1]) (st := []) (n := 2) dd_156_37 ca_157 zw_1200 zw_1202 zv_39 zMs_0 zcl_12 rfl (mt_fm_otherOf e8) rfl ⟨by decide +kernel, by decide⟩ (Nat.le_of_ble_eq_true rfl) ?_
      obtain rfl := Option.some.inj h
      exact zg_iret dd_156_40 rfl
    · replace h := z_f h q6
      refine zg_aload_n dd_156_25 rfl (j := 1) rfl ?_
      refine zg_ldc dd_156_26 zw_1199 ?_
      obtain ⟨r9, e10, h⟩ := z_bd h
      refine zg_invV_i (av := [.inl (-1000002 : Int32)]) (st := []) (n := 1) dd_156_28 ca_143 zw_1140 zw_1142 zv_31 zMs_0 zcl_12 rfl (mt_fm_finding e10) rfl ⟨by decide +kernel, by decide⟩ (Nat.le_of_ble_eq_true rfl) ?_
      refine zg_goto (tgt := 40) dd_156_31 (by decide) ?_
      obtain rfl := Option.some.inj h
      exact zg_iret dd_156_40 rfl
  · replace h := z_t h q3
    refine zg_aload_n dd_156_8 rfl (j := 0) rfl ?_
    refine zg_ldc dd_156_9 zw_1139 ?_
    obtain ⟨r11, e12, h⟩ := z_bd h
    refine zg_invV_i (av := [.inl (-1000001 : Int32)]) (st := []) (n := 1) dd_156_11 ca_143 zw_1140 zw_1142 zv_31 zMs_0 zcl_12 rfl (mt_fm_finding e12) rfl ⟨by decide +kernel, by decide⟩ (Nat.le_of_ble_eq_true rfl) ?_
    obtain rfl := Option.some.inj h
    exact zg_iret dd_156_14 rfl
/-! TurnedLandModel.second[None] -/
def fm_second (I : zI) (a0 : Int32) : Option Int32 :=
  some (((a0 / (4 : Int32)) * (4 : Int32)) + ((a0 + (1 : Int32)) % (4 : Int32)))
set_option maxRecDepth 20000 in
theorem mt_fm_second {I : zI} {a0 : Int32} {res : Int32} (h : fm_second I a0 = some res) : zM 1 ym_161 [.inl a0] (zMs, zMr, I) (some (.inl res)) (zMs, zMr, I) 0 0 := by
  refine zM_of (by decide) (Nat.le_of_ble_eq_true rfl) (lv := [(0, .inl a0)]) rfl ?_
  rw [fm_second] at h
  refine zg_iload_n dd_161_0 rfl (j := 0) rfl ?_
  refine zg_iconst dd_161_1 kI_4 ?_
  refine zg_idiv dd_161_2 (by decide) ?_
  refine zg_iconst dd_161_3 kI_4 ?_
  refine zg_imul dd_161_4 ?_
  refine zg_iload_n dd_161_5 rfl (j := 0) rfl ?_
  refine zg_iconst dd_161_6 kI_1 ?_
  refine zg_iadd dd_161_7 ?_
  refine zg_iconst dd_161_8 kI_4 ?_
  refine zg_irem dd_161_9 (by decide) ?_
  refine zg_iadd dd_161_10 ?_
  obtain rfl := Option.some.inj h
  exact zg_iret dd_161_11 rfl
/-! java/lang/Math.min[None, None] -/
def fm_JMath_min (I : zI) (a0 : Int32) (a1 : Int32) : Option Int32 :=
  if a1 < a0 then
    some a1
  else
    some a0
set_option maxRecDepth 20000 in
theorem mt_fm_JMath_min {I : zI} {a0 : Int32} {a1 : Int32} {res : Int32} (h : fm_JMath_min I a0 a1 = some res) : zM 1 ym_58 [.inl a0, .inl a1] (zMs, zMr, I) (some (.inl res)) (zMs, zMr, I) 0 0 := by
  refine zM_of (by decide) (Nat.le_of_ble_eq_true rfl) (lv := [(0, .inl a0), (1, .inl a1)]) rfl ?_
  rw [fm_JMath_min] at h
  refine zg_iload_n dd_58_0 rfl (j := 0) rfl ?_
  refine zg_iload_n dd_58_1 rfl (j := 1) rfl ?_
  refine zg_icmp_gt (tgt := 9) dd_58_2 (by decide) (fun q1 => ?_) (fun q1 => ?_)
  · replace h := z_t h q1
    refine zg_iload_n dd_58_9 rfl (j := 1) rfl ?_
    obtain rfl := Option.some.inj h
    exact zg_iret dd_58_10 rfl
  · replace h := z_f h q1
    refine zg_iload_n dd_58_5 rfl (j := 0) rfl ?_
    refine zg_goto (tgt := 10) dd_58_6 (by decide) ?_
    obtain rfl := Option.some.inj h
    exact zg_iret dd_58_10 rfl
/-! java/lang/Math.max[None, None] -/
def fm_JMath_max (I : zI) (a0 : Int32) (a1 : Int32) : Option Int32 :=
  if a0 < a1 then
    some a1
  else
    some a0
set_option maxRecDepth 20000 in
theorem mt_fm_JMath_max {I : zI} {a0 : Int32} {a1 : Int32} {res : Int32} (h : fm_JMath_max I a0 a1 = some res) : zM 1 ym_59 [.inl a0, .inl a1] (zMs, zMr, I) (some (.inl res)) (zMs, zMr, I) 0 0 := by
  refine zM_of (by decide) (Nat.le_of_ble_eq_true rfl) (lv := [(0, .inl a0), (1, .inl a1)]) rfl ?_
  rw [fm_JMath_max] at h
  refine zg_iload_n dd_59_0 rfl (j := 0) rfl ?_
  refine zg_iload_n dd_59_1 rfl (j := 1) rfl ?_
  refine zg_icmp_lt (tgt := 9) dd_59_2 (by decide) (fun q1 => ?_) (fun q1 => ?_)
  · replace h := z_t h q1
    refine zg_iload_n dd_59_9 rfl (j := 1) rfl ?_
    obtain rfl := Option.some.inj h
    exact zg_iret dd_59_10 rfl
  · replace h := z_f h q1
    refine zg_iload_n dd_59_5 rfl (j := 0) rfl ?_
    refine zg_goto (tgt := 10) dd_59_6 (by decide) ?_
    obtain rfl := Option.some.inj h
    exact zg_iret dd_59_10 rfl
/-! TurnedLandModel.oneOf[0, None, None] -/
def fm_oneOf_L36 : Nat → Int32 → Int32 → Int32 → zI → Option zI
  | 0, _, _, _, _ => none
  | nf + 1, v3, v4, v5, I =>
    if ((4 : Int32) * (I 1 (0 : Int32).toNatClampNeg)) ≤ v5 then
      some I
    else
      z_guard (zb v5 32) <|
      if (I 4 v5.toNatClampNeg) = v4 then
        z_guard (zb v5 32) <|
        fm_oneOf_L36 nf v3 v4 (v5 + (1 : Int32)) (zup I 4 v5.toNatClampNeg v3)
      else
        z_guard (zb v5 32) <|
        z_guard (zb v5 32) <|
        fm_oneOf_L36 nf v3 v4 (v5 + (1 : Int32)) (zup I 4 v5.toNatClampNeg (I 4 v5.toNatClampNeg))
def fm_oneOf (I : zI) (a1 : Int32) (a2 : Int32) : Option zI :=
  z_guard (zb a1 32) <|
  z_guard (zb a2 32) <|
  (fm_JMath_min I (I 4 a1.toNatClampNeg) (I 4 a2.toNatClampNeg)).bind fun r3 =>
  z_guard (zb a1 32) <|
  z_guard (zb a2 32) <|
  (fm_JMath_max I (I 4 a1.toNatClampNeg) (I 4 a2.toNatClampNeg)).bind fun r7 =>
  fm_oneOf_L36
    100 r3 r7 (0 : Int32) I
set_option maxRecDepth 20000 in
theorem lt_fm_oneOf_L36 {res : zI} : ∀ (nf : Nat) (v3 : Int32) (v4 : Int32) (v5 : Int32) (I : zI), fm_oneOf_L36 nf v3 v4 v5 I = some res → zG 2 ym_162 0 0 none (zMs, zMr, res) zMs.length 36 [(0, .inr (.inr (some 0))), (3, .inl v3), (4, .inl v4), (5, .inl v5)] [] (zMs, zMr, I) 0 0 := by
  intro nf
  induction nf with
  | zero =>
    intro v3 v4 v5 I h
    have h2 : none = some res := h
    cases h2
  | succ nf ih =>
    intro v3 v4 v5 I h
    rw [fm_oneOf_L36] at h
    refine zg_iload dd_162_36 (j := 3) rfl ?_
    refine zg_iconst dd_162_38 kI_4 ?_
    refine zg_aload_n dd_162_39 rfl (j := 0) rfl ?_
    refine zg_getR dd_162_40 zl_M_9 zMs_0 rfl zMr_0_0 ?_
    refine zg_iconst dd_162_43 kI_0 ?_
    refine zg_iald dd_162_44 zMs_1 (by decide) ?_
    refine zg_imul dd_162_45 ?_
    refine zg_icmp_ge (tgt := 85) dd_162_46 (by decide) (fun q9 => ?_) (fun q9 => ?_)
    · replace h := z_t h q9
      obtain rfl := Option.some.inj h
      exact zg_vret dd_162_85 rfl
    · replace h := z_f h q9
      refine zg_aload_n dd_162_49 rfl (j := 0) rfl ?_
      refine zg_getR dd_162_50 zl_M_19 zMs_0 rfl zMr_0_4 ?_
      refine zg_iload dd_162_53 (j := 3) rfl ?_
      refine zg_aload_n dd_162_55 rfl (j := 0) rfl ?_
      refine zg_getR dd_162_56 zl_M_19 zMs_0 rfl zMr_0_4 ?_
      refine zg_iload dd_162_59 (j := 3) rfl ?_
      obtain ⟨g10, h⟩ := z_gd h
      refine zg_iald dd_162_61 zMs_4 g10 ?_
      refine zg_iload dd_162_62 (j := 2) rfl ?_
      refine zg_icmp_ne (tgt := 71) dd_162_64 (by decide) (fun q11 => ?_) (fun q11 => ?_)
      · replace h := z_f h q11
        refine zg_aload_n dd_162_71 rfl (j := 0) rfl ?_
        refine zg_getR dd_162_72 zl_M_19 zMs_0 rfl zMr_0_4 ?_
        refine zg_iload dd_162_75 (j := 3) rfl ?_
        obtain ⟨g12, h⟩ := z_gd h
        refine zg_iald dd_162_77 zMs_4 g12 ?_
        obtain ⟨g13, h⟩ := z_gd h
        refine zg_iast dd_162_78 zMs_4 g13 ?_
        refine zg_iinc dd_162_79 (j := 3) rfl (v := (v5 + (1 : Int32))) (by rw [kI_1]) (Nat.le_of_ble_eq_true rfl) (lv' := [(5, .inl (v5 + (1 : Int32))), (0, .inr (.inr (some 0))), (3, .inl v3), (4, .inl v4)]) rfl ?_
        refine zg_goto (tgt := 36) dd_162_82 (by decide) ?_
        refine zg_sub [1, 2, 3, 0] rfl ?_
        exact ih _ _ _ _ h
      · replace h := z_t h q11
        refine zg_iload_n dd_162_67 rfl (j := 1) rfl ?_
        refine zg_goto (tgt := 78) dd_162_68 (by decide) ?_
        obtain ⟨g14, h⟩ := z_gd h
        refine zg_iast dd_162_78 zMs_4 g14 ?_
        refine zg_iinc dd_162_79 (j := 3) rfl (v := (v5 + (1 : Int32))) (by rw [kI_1]) (Nat.le_of_ble_eq_true rfl) (lv' := [(5, .inl (v5 + (1 : Int32))), (0, .inr (.inr (some 0))), (3, .inl v3), (4, .inl v4)]) rfl ?_
        refine zg_goto (tgt := 36) dd_162_82 (by decide) ?_
        refine zg_sub [1, 2, 3, 0] rfl ?_
        exact ih _ _ _ _ h
set_option maxRecDepth 20000 in
theorem mt_fm_oneOf {I : zI} {a1 : Int32} {a2 : Int32} {res : zI} (h : fm_oneOf I a1 a2 = some res) : zM 2 ym_162 [.inr (.inr (some 0)), .inl a1, .inl a2] (zMs, zMr, I) none (zMs, zMr, res) 0 0 := by
  refine zM_of (by decide) (Nat.le_of_ble_eq_true rfl) (lv := [(0, .inr (.inr (some 0))), (1, .inl a1), (2, .inl a2)]) rfl ?_
  rw [fm_oneOf] at h
  refine zg_aload_n dd_162_0 rfl (j := 0) rfl ?_
  refine zg_getR dd_162_1 zl_M_19 zMs_0 rfl zMr_0_4 ?_
  refine zg_iload_n dd_162_4 rfl (j := 1) rfl ?_
  obtain ⟨g1, h⟩ := z_gd h
  refine zg_iald dd_162_5 zMs_4 g1 ?_
  refine zg_aload_n dd_162_6 rfl (j := 0) rfl ?_
  refine zg_getR dd_162_7 zl_M_19 zMs_0 rfl zMr_0_4 ?_
  refine zg_iload_n dd_162_10 rfl (j := 2) rfl ?_
  obtain ⟨g2, h⟩ := z_gd h
  refine zg_iald dd_162_11 zMs_4 g2 ?_
  obtain ⟨r3, e4, h⟩ := z_bd h
  refine zg_invS_i (av := [.inl (I 4 a1.toNatClampNeg), .inl (I 4 a2.toNatClampNeg)]) (st := []) (n := 2) dd_162_12 ca_58 zw_1223 zw_668 (mt_fm_JMath_min e4) rfl ⟨by decide +kernel, by decide⟩ (Nat.le_of_ble_eq_true rfl) ?_
  refine zg_istore_n dd_162_15 rfl (Nat.le_of_ble_eq_true rfl) (lv' := [(3, .inl r3), (0, .inr (.inr (some 0))), (1, .inl a1), (2, .inl a2)]) rfl ?_
  refine zg_aload_n dd_162_16 rfl (j := 1) rfl ?_
  refine zg_getR dd_162_17 zl_M_19 zMs_0 rfl zMr_0_4 ?_
  refine zg_iload_n dd_162_20 rfl (j := 2) rfl ?_
  obtain ⟨g5, h⟩ := z_gd h
  refine zg_iald dd_162_21 zMs_4 g5 ?_
  refine zg_aload_n dd_162_22 rfl (j := 1) rfl ?_
  refine zg_getR dd_162_23 zl_M_19 zMs_0 rfl zMr_0_4 ?_
  refine zg_iload_n dd_162_26 rfl (j := 3) rfl ?_
  obtain ⟨g6, h⟩ := z_gd h
  refine zg_iald dd_162_27 zMs_4 g6 ?_
  obtain ⟨r7, e8, h⟩ := z_bd h
  refine zg_invS_i (av := [.inl (I 4 a1.toNatClampNeg), .inl (I 4 a2.toNatClampNeg)]) (st := []) (n := 2) dd_162_28 ca_59 zw_1224 zw_671 (mt_fm_JMath_max e8) rfl ⟨by decide +kernel, by decide⟩ (Nat.le_of_ble_eq_true rfl) ?_
  refine zg_istore dd_162_31 (Nat.le_of_ble_eq_true rfl) (lv' := [(4, .inl r7), (3, .inl r3), (0, .inr (.inr (some 0))), (1, .inl a1), (2, .inl a2)]) rfl ?_
  refine zg_iconst dd_162_33 kI_0 ?_
  refine zg_istore dd_162_34 (Nat.le_of_ble_eq_true rfl) (lv' := [(5, .inl (0 : Int32)), (4, .inl r7), (3, .inl r3), (0, .inr (.inr (some 0))), (1, .inl a1), (2, .inl a2)]) rfl ?_
  refine zg_sub [3, 2, 1, 0] rfl ?_
  refine lt_fm_oneOf_L36  _ _ _ _ _ h
/-! TurnedLandModel.findCorners[0] -/
def fm_findCorners_L23 : Nat → Int32 → zI → Option zI
  | 0, _, _ => none
  | nf + 1, v1, I =>
    if (I 1 (1 : Int32).toNatClampNeg) ≤ v1 then
      some I
    else
      (fm_joinOf I v1 (0 : Int32)).bind fun r3 =>
      (fm_joinOf I v1 (1 : Int32)).bind fun r5 =>
      (fm_joinOf I v1 (2 : Int32)).bind fun r7 =>
      if r7 = (1 : Int32) then
        (fm_oneOf I r3 r5).bind fun r21 =>
        (fm_second r21 r3).bind fun r23 =>
        (fm_second r21 r5).bind fun r26 =>
        (fm_oneOf r21 r23 r26).bind fun r28 =>
        fm_findCorners_L23 nf (v1 + (1 : Int32)) r28
      else
        (fm_second I r5).bind fun r11 =>
        (fm_oneOf I r3 r11).bind fun r13 =>
        (fm_second r13 r3).bind fun r15 =>
        (fm_oneOf r13 r15 r5).bind fun r18 =>
        fm_findCorners_L23 nf (v1 + (1 : Int32)) r18
def fm_findCorners_L2 : Nat → Int32 → zI → Option zI
  | 0, _, _ => none
  | nf + 1, v1, I =>
    if (32 : Int32) ≤ v1 then
      fm_findCorners_L23
        100 (0 : Int32) I
    else
      z_guard (zb v1 32) <|
      fm_findCorners_L2 nf (v1 + (1 : Int32)) (zup I 4 v1.toNatClampNeg v1)
def fm_findCorners (I : zI) : Option zI :=
  fm_findCorners_L2
    100 (0 : Int32) I
set_option maxRecDepth 20000 in
theorem lt_fm_findCorners_L23 {res : zI} : ∀ (nf : Nat) (v1 : Int32) (I : zI), fm_findCorners_L23 nf v1 I = some res → zG 3 ym_160 0 0 none (zMs, zMr, res) zMs.length 23 [(0, .inr (.inr (some 0))), (1, .inl v1)] [] (zMs, zMr, I) 0 0 := by
  intro nf
  induction nf with
  | zero =>
    intro v1 I h
    have h2 : none = some res := h
    cases h2
  | succ nf ih =>
    intro v1 I h
    rw [fm_findCorners_L23] at h
    refine zg_iload_n dd_160_23 rfl (j := 1) rfl ?_
    refine zg_aload_n dd_160_24 rfl (j := 0) rfl ?_
    refine zg_getR dd_160_25 zl_M_9 zMs_0 rfl zMr_0_0 ?_
    refine zg_iconst dd_160_28 kI_1 ?_
    refine zg_iald dd_160_29 zMs_1 (by decide) ?_
    refine zg_icmp_ge (tgt := 109) dd_160_30 (by decide) (fun q2 => ?_) (fun q2 => ?_)
    · replace h := z_t h q2
      obtain rfl := Option.some.inj h
      exact zg_vret dd_160_109 rfl
    · replace h := z_f h q2
      refine zg_aload_n dd_160_33 rfl (j := 0) rfl ?_
      refine zg_iload_n dd_160_34 rfl (j := 1) rfl ?_
      refine zg_iconst dd_160_35 kI_0 ?_
      obtain ⟨r3, e4, h⟩ := z_bd h
      refine zg_invV_i (av := [.inl v1, .inl (0 : Int32)]) (st := []) (n := 2) dd_160_36 ca_151 zw_1174 zw_1176 zv_37 zMs_0 zcl_12 rfl (mt_fm_joinOf e4) rfl ⟨by decide +kernel, by decide⟩ (Nat.le_of_ble_eq_true rfl) ?_
      refine zg_istore_n dd_160_39 rfl (Nat.le_of_ble_eq_true rfl) (lv' := [(2, .inl r3), (0, .inr (.inr (some 0))), (1, .inl v1)]) rfl ?_
      refine zg_aload_n dd_160_40 rfl (j := 1) rfl ?_
      refine zg_iload_n dd_160_41 rfl (j := 2) rfl ?_
      refine zg_iconst dd_160_42 kI_1 ?_
      obtain ⟨r5, e6, h⟩ := z_bd h
      refine zg_invV_i (av := [.inl v1, .inl (1 : Int32)]) (st := []) (n := 2) dd_160_43 ca_151 zw_1174 zw_1176 zv_37 zMs_0 zcl_12 rfl (mt_fm_joinOf e6) rfl ⟨by decide +kernel, by decide⟩ (Nat.le_of_ble_eq_true rfl) ?_
      refine zg_istore_n dd_160_46 rfl (Nat.le_of_ble_eq_true rfl) (lv' := [(3, .inl r5), (2, .inl r3), (0, .inr (.inr (some 0))), (1, .inl v1)]) rfl ?_
      refine zg_aload_n dd_160_47 rfl (j := 2) rfl ?_
      refine zg_iload_n dd_160_48 rfl (j := 3) rfl ?_
      refine zg_iconst dd_160_49 kI_2 ?_
      obtain ⟨r7, e8, h⟩ := z_bd h
      refine zg_invV_i (av := [.inl v1, .inl (2 : Int32)]) (st := []) (n := 2) dd_160_50 ca_151 zw_1174 zw_1176 zv_37 zMs_0 zcl_12 rfl (mt_fm_joinOf e8) rfl ⟨by decide +kernel, by decide⟩ (Nat.le_of_ble_eq_true rfl) ?_
      refine zg_iconst dd_160_53 kI_1 ?_
      refine zg_icmp_ne (tgt := 61) dd_160_54 (by decide) (fun q9 => ?_) (fun q9 => ?_)
      · replace h := z_f h q9
        refine zg_iconst dd_160_61 kI_0 ?_
        refine zg_istore dd_160_62 (Nat.le_of_ble_eq_true rfl) (lv' := [(4, .inl (0 : Int32)), (3, .inl r5), (2, .inl r3), (0, .inr (.inr (some 0))), (1, .inl v1)]) rfl ?_
        refine zg_aload_n dd_160_64 rfl (j := 3) rfl ?_
        refine zg_iload_n dd_160_65 rfl (j := 2) rfl ?_
        refine zg_iload dd_160_66 (j := 0) rfl ?_
        refine zg_if_eq (tgt := 75) dd_160_68 (by decide) (fun _ => ?_) (fun q10 => absurd q10 (by decide))
        refine zg_iload_n dd_160_75 rfl (j := 1) rfl ?_
        obtain ⟨r11, e12, h⟩ := z_bd h
        refine zg_invS_i (av := [.inl r5]) (st := [.inl r3, .inr (.inr (some 0))]) (n := 1) dd_160_76 ca_161 zw_1216 zw_1217 (mt_fm_second e12) rfl ⟨by decide +kernel, by decide⟩ (Nat.le_of_ble_eq_true rfl) ?_
        obtain ⟨r13, e14, h⟩ := z_bd h
        refine zg_invV_v (av := [.inl r3, .inl r11]) (st := []) (n := 2) dd_160_79 ca_162 zw_1219 zw_1221 zv_42 zMs_0 zcl_12 rfl (mt_fm_oneOf e14) rfl ⟨by decide +kernel, by decide⟩ (Nat.le_of_ble_eq_true rfl) ?_
        refine zg_aload_n dd_160_82 rfl (j := 3) rfl ?_
        refine zg_iload_n dd_160_83 rfl (j := 2) rfl ?_
        obtain ⟨r15, e16, h⟩ := z_bd h
        refine zg_invS_i (av := [.inl r3]) (st := [.inr (.inr (some 0))]) (n := 1) dd_160_84 ca_161 zw_1216 zw_1217 (mt_fm_second e16) rfl ⟨by decide +kernel, by decide⟩ (Nat.le_of_ble_eq_true rfl) ?_
        refine zg_iload dd_160_87 (j := 0) rfl ?_
        refine zg_if_eq (tgt := 99) dd_160_89 (by decide) (fun _ => ?_) (fun q17 => absurd q17 (by decide))
        refine zg_iload_n dd_160_99 rfl (j := 1) rfl ?_
        obtain ⟨r18, e19, h⟩ := z_bd h
        refine zg_invV_v (av := [.inl r15, .inl r5]) (st := []) (n := 2) dd_160_100 ca_162 zw_1219 zw_1221 zv_42 zMs_0 zcl_12 rfl (mt_fm_oneOf e19) rfl ⟨by decide +kernel, by decide⟩ (Nat.le_of_ble_eq_true rfl) ?_
        refine zg_iinc dd_160_103 (j := 4) rfl (v := (v1 + (1 : Int32))) (by rw [kI_1]) (Nat.le_of_ble_eq_true rfl) (lv' := [(1, .inl (v1 + (1 : Int32))), (4, .inl (0 : Int32)), (3, .inl r5), (2, .inl r3), (0, .inr (.inr (some 0)))]) rfl ?_
        refine zg_goto (tgt := 23) dd_160_106 (by decide) ?_
        refine zg_sub [4, 0] rfl ?_
        exact ih _ _ h
      · replace h := z_t h q9
        refine zg_iconst dd_160_57 kI_1 ?_
        refine zg_goto (tgt := 62) dd_160_58 (by decide) ?_
        refine zg_istore dd_160_62 (Nat.le_of_ble_eq_true rfl) (lv' := [(4, .inl (1 : Int32)), (3, .inl r5), (2, .inl r3), (0, .inr (.inr (some 0))), (1, .inl v1)]) rfl ?_
        refine zg_aload_n dd_160_64 rfl (j := 3) rfl ?_
        refine zg_iload_n dd_160_65 rfl (j := 2) rfl ?_
        refine zg_iload dd_160_66 (j := 0) rfl ?_
        refine zg_if_eq (tgt := 75) dd_160_68 (by decide) (fun q20 => absurd q20 (by decide)) (fun _ => ?_)
        refine zg_iload_n dd_160_71 rfl (j := 1) rfl ?_
        refine zg_goto (tgt := 79) dd_160_72 (by decide) ?_
        obtain ⟨r21, e22, h⟩ := z_bd h
        refine zg_invV_v (av := [.inl r3, .inl r5]) (st := []) (n := 2) dd_160_79 ca_162 zw_1219 zw_1221 zv_42 zMs_0 zcl_12 rfl (mt_fm_oneOf e22) rfl ⟨by decide +kernel, by decide⟩ (Nat.le_of_ble_eq_true rfl) ?_
        refine zg_aload_n dd_160_82 rfl (j := 3) rfl ?_
        refine zg_iload_n dd_160_83 rfl (j := 2) rfl ?_
        obtain ⟨r23, e24, h⟩ := z_bd h
        refine zg_invS_i (av := [.inl r3]) (st := [.inr (.inr (some 0))]) (n := 1) dd_160_84 ca_161 zw_1216 zw_1217 (mt_fm_second e24) rfl ⟨by decide +kernel, by decide⟩ (Nat.le_of_ble_eq_true rfl) ?_
        refine zg_iload dd_160_87 (j := 0) rfl ?_
        refine zg_if_eq (tgt := 99) dd_160_89 (by decide) (fun q25 => absurd q25 (by decide)) (fun _ => ?_)
        refine zg_iload_n dd_160_92 rfl (j := 1) rfl ?_
        obtain ⟨r26, e27, h⟩ := z_bd h
        refine zg_invS_i (av := [.inl r5]) (st := [.inl r23, .inr (.inr (some 0))]) (n := 1) dd_160_93 ca_161 zw_1216 zw_1217 (mt_fm_second e27) rfl ⟨by decide +kernel, by decide⟩ (Nat.le_of_ble_eq_true rfl) ?_
        refine zg_goto (tgt := 100) dd_160_96 (by decide) ?_
        obtain ⟨r28, e29, h⟩ := z_bd h
        refine zg_invV_v (av := [.inl r23, .inl r26]) (st := []) (n := 2) dd_160_100 ca_162 zw_1219 zw_1221 zv_42 zMs_0 zcl_12 rfl (mt_fm_oneOf e29) rfl ⟨by decide +kernel, by decide⟩ (Nat.le_of_ble_eq_true rfl) ?_
        refine zg_iinc dd_160_103 (j := 4) rfl (v := (v1 + (1 : Int32))) (by rw [kI_1]) (Nat.le_of_ble_eq_true rfl) (lv' := [(1, .inl (v1 + (1 : Int32))), (4, .inl (1 : Int32)), (3, .inl r5), (2, .inl r3), (0, .inr (.inr (some 0)))]) rfl ?_
        refine zg_goto (tgt := 23) dd_160_106 (by decide) ?_
        refine zg_sub [4, 0] rfl ?_
        exact ih _ _ h
set_option maxRecDepth 20000 in
theorem lt_fm_findCorners_L2 {res : zI} : ∀ (nf : Nat) (v1 : Int32) (I : zI), fm_findCorners_L2 nf v1 I = some res → zG 3 ym_160 0 0 none (zMs, zMr, res) zMs.length 2 [(0, .inr (.inr (some 0))), (1, .inl v1)] [] (zMs, zMr, I) 0 0 := by
  intro nf
  induction nf with
  | zero =>
    intro v1 I h
    have h2 : none = some res := h
    cases h2
  | succ nf ih =>
    intro v1 I h
    rw [fm_findCorners_L2] at h
    refine zg_iload_n dd_160_2 rfl (j := 1) rfl ?_
    refine zg_bipush dd_160_3 kB_32 ?_
    refine zg_icmp_ge (tgt := 21) dd_160_5 (by decide) (fun q1 => ?_) (fun q1 => ?_)
    · replace h := z_t h q1
      refine zg_iconst dd_160_21 kI_0 ?_
      refine zg_istore_n dd_160_22 rfl (Nat.le_of_ble_eq_true rfl) (lv' := [(1, .inl (0 : Int32)), (0, .inr (.inr (some 0)))]) rfl ?_
      refine zg_sub [1, 0] rfl ?_
      refine lt_fm_findCorners_L23  _ _ _ h
    · replace h := z_f h q1
      refine zg_aload_n dd_160_8 rfl (j := 0) rfl ?_
      refine zg_getR dd_160_9 zl_M_19 zMs_0 rfl zMr_0_4 ?_
      refine zg_iload_n dd_160_12 rfl (j := 1) rfl ?_
      refine zg_iload_n dd_160_13 rfl (j := 1) rfl ?_
      obtain ⟨g30, h⟩ := z_gd h
      refine zg_iast dd_160_14 zMs_4 g30 ?_
      refine zg_iinc dd_160_15 (j := 1) rfl (v := (v1 + (1 : Int32))) (by rw [kI_1]) (Nat.le_of_ble_eq_true rfl) (lv' := [(1, .inl (v1 + (1 : Int32))), (0, .inr (.inr (some 0)))]) rfl ?_
      refine zg_goto (tgt := 2) dd_160_18 (by decide) ?_
      refine zg_sub [1, 0] rfl ?_
      exact ih _ _ h
set_option maxRecDepth 20000 in
theorem mt_fm_findCorners {I : zI} {res : zI} (h : fm_findCorners I = some res) : zM 3 ym_160 [.inr (.inr (some 0))] (zMs, zMr, I) none (zMs, zMr, res) 0 0 := by
  refine zM_of (by decide) (Nat.le_of_ble_eq_true rfl) (lv := [(0, .inr (.inr (some 0)))]) rfl ?_
  rw [fm_findCorners] at h
  refine zg_iconst dd_160_0 kI_0 ?_
  refine zg_istore_n dd_160_1 rfl (Nat.le_of_ble_eq_true rfl) (lv' := [(1, .inl (0 : Int32)), (0, .inr (.inr (some 0)))]) rfl ?_
  refine zg_sub [1, 0] rfl ?_
  refine lt_fm_findCorners_L2  _ _ _ h
/-! TurnedLandModel.cornersNow[0] -/
def fm_cornersNow_L8 : Nat → Int32 → Int32 → zI → Option (Int32 × zI)
  | 0, _, _, _ => none
  | nf + 1, v1, v2, I =>
    if ((4 : Int32) * (I 1 (0 : Int32).toNatClampNeg)) ≤ v2 then
      some (v1, I)
    else
      z_guard (zb v2 32) <|
      if (I 4 v2.toNatClampNeg) = v2 then
        fm_cornersNow_L8 nf (v1 + (1 : Int32)) (v2 + (1 : Int32)) I
      else
        fm_cornersNow_L8 nf (v1 + (0 : Int32)) (v2 + (1 : Int32)) I
def fm_cornersNow (I : zI) : Option (Int32 × zI) :=
  (fm_findCorners I).bind fun r1 =>
  fm_cornersNow_L8
    100 (0 : Int32) (0 : Int32) r1
set_option maxRecDepth 20000 in
theorem lt_fm_cornersNow_L8 {res : (Int32 × zI)} : ∀ (nf : Nat) (v1 : Int32) (v2 : Int32) (I : zI), fm_cornersNow_L8 nf v1 v2 I = some res → zG 4 ym_159 0 0 (some (.inl res.1)) (zMs, zMr, res.2) zMs.length 8 [(0, .inr (.inr (some 0))), (1, .inl v1), (2, .inl v2)] [] (zMs, zMr, I) 0 0 := by
  intro nf
  induction nf with
  | zero =>
    intro v1 v2 I h
    have h2 : none = some res := h
    cases h2
  | succ nf ih =>
    intro v1 v2 I h
    rw [fm_cornersNow_L8] at h
    refine zg_iload_n dd_159_8 rfl (j := 2) rfl ?_
    refine zg_iconst dd_159_9 kI_4 ?_
    refine zg_aload_n dd_159_10 rfl (j := 0) rfl ?_
    refine zg_getR dd_159_11 zl_M_9 zMs_0 rfl zMr_0_0 ?_
    refine zg_iconst dd_159_14 kI_0 ?_
    refine zg_iald dd_159_15 zMs_1 (by decide) ?_
    refine zg_imul dd_159_16 ?_
    refine zg_icmp_ge (tgt := 44) dd_159_17 (by decide) (fun q3 => ?_) (fun q3 => ?_)
    · replace h := z_t h q3
      refine zg_iload_n dd_159_44 rfl (j := 1) rfl ?_
      obtain rfl := Option.some.inj h
      exact zg_iret dd_159_45 rfl
    · replace h := z_f h q3
      refine zg_iload_n dd_159_20 rfl (j := 1) rfl ?_
      refine zg_aload_n dd_159_21 rfl (j := 0) rfl ?_
      refine zg_getR dd_159_22 zl_M_19 zMs_0 rfl zMr_0_4 ?_
      refine zg_iload_n dd_159_25 rfl (j := 2) rfl ?_
      obtain ⟨g4, h⟩ := z_gd h
      refine zg_iald dd_159_26 zMs_4 g4 ?_
      refine zg_iload_n dd_159_27 rfl (j := 2) rfl ?_
      refine zg_icmp_ne (tgt := 35) dd_159_28 (by decide) (fun q5 => ?_) (fun q5 => ?_)
      · replace h := z_f h q5
        refine zg_iconst dd_159_35 kI_0 ?_
        refine zg_iadd dd_159_36 ?_
        refine zg_istore_n dd_159_37 rfl (Nat.le_of_ble_eq_true rfl) (lv' := [(1, .inl (v1 + (0 : Int32))), (0, .inr (.inr (some 0))), (2, .inl v2)]) rfl ?_
        refine zg_iinc dd_159_38 (j := 2) rfl (v := (v2 + (1 : Int32))) (by rw [kI_1]) (Nat.le_of_ble_eq_true rfl) (lv' := [(2, .inl (v2 + (1 : Int32))), (1, .inl (v1 + (0 : Int32))), (0, .inr (.inr (some 0)))]) rfl ?_
        refine zg_goto (tgt := 8) dd_159_41 (by decide) ?_
        refine zg_sub [2, 1, 0] rfl ?_
        exact ih _ _ _ h
      · replace h := z_t h q5
        refine zg_iconst dd_159_31 kI_1 ?_
        refine zg_goto (tgt := 36) dd_159_32 (by decide) ?_
        refine zg_iadd dd_159_36 ?_
        refine zg_istore_n dd_159_37 rfl (Nat.le_of_ble_eq_true rfl) (lv' := [(1, .inl (v1 + (1 : Int32))), (0, .inr (.inr (some 0))), (2, .inl v2)]) rfl ?_
        refine zg_iinc dd_159_38 (j := 2) rfl (v := (v2 + (1 : Int32))) (by rw [kI_1]) (Nat.le_of_ble_eq_true rfl) (lv' := [(2, .inl (v2 + (1 : Int32))), (1, .inl (v1 + (1 : Int32))), (0, .inr (.inr (some 0)))]) rfl ?_
        refine zg_goto (tgt := 8) dd_159_41 (by decide) ?_
        refine zg_sub [2, 1, 0] rfl ?_
        exact ih _ _ _ h
set_option maxRecDepth 20000 in
theorem mt_fm_cornersNow {I : zI} {res : (Int32 × zI)} (h : fm_cornersNow I = some res) : zM 4 ym_159 [.inr (.inr (some 0))] (zMs, zMr, I) (some (.inl res.1)) (zMs, zMr, res.2) 0 0 := by
  refine zM_of (by decide) (Nat.le_of_ble_eq_true rfl) (lv := [(0, .inr (.inr (some 0)))]) rfl ?_
  rw [fm_cornersNow] at h
  refine zg_aload_n dd_159_0 rfl (j := 0) rfl ?_
  obtain ⟨r1, e2, h⟩ := z_bd h
  refine zg_invV_v (av := []) (st := []) (n := 0) dd_159_1 ca_160 zw_1212 zw_1214 zv_41 zMs_0 zcl_12 rfl (mt_fm_findCorners e2) rfl ⟨by decide +kernel, by decide⟩ (Nat.le_of_ble_eq_true rfl) ?_
  refine zg_iconst dd_159_4 kI_0 ?_
  refine zg_istore_n dd_159_5 rfl (Nat.le_of_ble_eq_true rfl) (lv' := [(1, .inl (0 : Int32)), (0, .inr (.inr (some 0)))]) rfl ?_
  refine zg_iconst dd_159_6 kI_0 ?_
  refine zg_istore_n dd_159_7 rfl (Nat.le_of_ble_eq_true rfl) (lv' := [(2, .inl (0 : Int32)), (1, .inl (0 : Int32)), (0, .inr (.inr (some 0)))]) rfl ?_
  refine zg_sub [2, 1, 0] rfl ?_
  refine lt_fm_cornersNow_L8  _ _ _ _ h
/-! TurnedLandModel.has[None, None] -/
def fm_has (I : zI) (a0 : Int32) (a1 : Int32) : Option Int32 :=
  if ((a0 >>> (a1 &&& 31)) &&& (1 : Int32)) = (1 : Int32) then
    some (1 : Int32)
  else
    some (0 : Int32)
set_option maxRecDepth 20000 in
theorem mt_fm_has {I : zI} {a0 : Int32} {a1 : Int32} {res : Int32} (h : fm_has I a0 a1 = some res) : zM 1 ym_166 [.inl a0, .inl a1] (zMs, zMr, I) (some (.inl res)) (zMs, zMr, I) 0 0 := by
  refine zM_of (by decide) (Nat.le_of_ble_eq_true rfl) (lv := [(0, .inl a0), (1, .inl a1)]) rfl ?_
  rw [fm_has] at h
  refine zg_iload_n dd_166_0 rfl (j := 0) rfl ?_
  refine zg_iload_n dd_166_1 rfl (j := 1) rfl ?_
  refine zg_ishr dd_166_2 ?_
  refine zg_iconst dd_166_3 kI_1 ?_
  refine zg_iand dd_166_4 ?_
  refine zg_iconst dd_166_5 kI_1 ?_
  refine zg_icmp_ne (tgt := 13) dd_166_6 (by decide) (fun q1 => ?_) (fun q1 => ?_)
  · replace h := z_f h q1
    refine zg_iconst dd_166_13 kI_0 ?_
    obtain rfl := Option.some.inj h
    exact zg_zret dd_166_14 rfl zSt_b0.1
  · replace h := z_t h q1
    refine zg_iconst dd_166_9 kI_1 ?_
    refine zg_goto (tgt := 14) dd_166_10 (by decide) ?_
    obtain rfl := Option.some.inj h
    exact zg_zret dd_166_14 rfl zSt_b1.1
/-! TurnedLandModel.crossed[0, None, None] -/
def fm_crossed_L37 (I : zI) : Nat → Int32 → Int32 → Int32 → Int32 → Int32 → Int32 → Option Int32
  | 0, _, _, _, _, _, _ => none
  | nf + 1, v1, v3, v4, v5, v6, v7 =>
    if (2 : Int32) ≤ v7 then
      some v6
    else
      (fm_has I v1 (v3 + v7)).bind fun r8 =>
      if r8 = 0 then
        (fm_has I v1 (v4 + v7)).bind fun r11 =>
        if r11 = 0 then
          fm_crossed_L37 I nf v1 v3 v4 v5 ((v6 ||| (0 : Int32)) ||| (0 : Int32)) (v7 + (1 : Int32))
        else
          fm_crossed_L37 I nf v1 v3 v4 v5 ((v6 ||| (0 : Int32)) ||| ((1 : Int32) <<< ((v3 + (v7 ^^^ v5)) &&& 31))) (v7 + (1 : Int32))
      else
        (fm_has I v1 (v4 + v7)).bind fun r14 =>
        if r14 = 0 then
          fm_crossed_L37 I nf v1 v3 v4 v5 ((v6 ||| ((1 : Int32) <<< ((v4 + (v7 ^^^ v5)) &&& 31))) ||| (0 : Int32)) (v7 + (1 : Int32))
        else
          fm_crossed_L37 I nf v1 v3 v4 v5 ((v6 ||| ((1 : Int32) <<< ((v4 + (v7 ^^^ v5)) &&& 31))) ||| ((1 : Int32) <<< ((v3 + (v7 ^^^ v5)) &&& 31))) (v7 + (1 : Int32))
def fm_crossed (I : zI) (a1 : Int32) (a2 : Int32) : Option Int32 :=
  (fm_joinOf I a2 (0 : Int32)).bind fun r1 =>
  (fm_joinOf I a2 (1 : Int32)).bind fun r3 =>
  (fm_joinOf I a2 (2 : Int32)).bind fun r5 =>
  fm_crossed_L37 I
    100 a1 ((2 : Int32) * (r1 / (4 : Int32))) ((2 : Int32) * (r3 / (4 : Int32))) r5 (0 : Int32) (0 : Int32)
set_option maxRecDepth 20000 in
theorem lt_fm_crossed_L37 {res : Int32} {I : zI} : ∀ (nf : Nat) (v1 : Int32) (v3 : Int32) (v4 : Int32) (v5 : Int32) (v6 : Int32) (v7 : Int32), fm_crossed_L37 I nf v1 v3 v4 v5 v6 v7 = some res → zG 2 ym_165 0 0 (some (.inl res)) (zMs, zMr, I) zMs.length 37 [(1, .inl v1), (3, .inl v3), (4, .inl v4), (5, .inl v5), (6, .inl v6), (7, .inl v7)] [] (zMs, zMr, I) 0 0 := by
  intro nf
  induction nf with
  | zero =>
    intro v1 v3 v4 v5 v6 v7 h
    have h2 : none = some res := h
    cases h2
  | succ nf ih =>
    intro v1 v3 v4 v5 v6 v7 h
    rw [fm_crossed_L37] at h
    refine zg_iload dd_165_37 (j := 5) rfl ?_
    refine zg_iconst dd_165_39 kI_2 ?_
    refine zg_icmp_ge (tgt := 109) dd_165_40 (by decide) (fun q7 => ?_) (fun q7 => ?_)
    · replace h := z_t h q7
      refine zg_iload dd_165_109 (j := 4) rfl ?_
      obtain rfl := Option.some.inj h
      exact zg_iret dd_165_111 rfl
    · replace h := z_f h q7
      refine zg_iload dd_165_43 (j := 4) rfl ?_
      refine zg_iload_n dd_165_45 rfl (j := 0) rfl ?_
      refine zg_iload_n dd_165_46 rfl (j := 1) rfl ?_
      refine zg_iload dd_165_47 (j := 5) rfl ?_
      refine zg_iadd dd_165_49 ?_
      obtain ⟨r8, e9, h⟩ := z_bd h
      refine zg_invS_i (av := [.inl v1, .inl (v3 + v7)]) (st := [.inl v6]) (n := 2) dd_165_50 ca_166 zw_1237 zw_1238 (mt_fm_has e9) rfl ⟨by decide +kernel, by decide⟩ (Nat.le_of_ble_eq_true rfl) ?_
      refine zg_if_eq (tgt := 69) dd_165_53 (by decide) (fun q10 => ?_) (fun q10 => ?_)
      · replace h := z_t h q10
        refine zg_iconst dd_165_69 kI_0 ?_
        refine zg_ior dd_165_70 ?_
        refine zg_istore dd_165_71 (Nat.le_of_ble_eq_true rfl) (lv' := [(6, .inl (v6 ||| (0 : Int32))), (1, .inl v1), (3, .inl v3), (4, .inl v4), (5, .inl v5), (7, .inl v7)]) rfl ?_
        refine zg_iload dd_165_73 (j := 0) rfl ?_
        refine zg_iload_n dd_165_75 rfl (j := 1) rfl ?_
        refine zg_iload dd_165_76 (j := 3) rfl ?_
        refine zg_iload dd_165_78 (j := 5) rfl ?_
        refine zg_iadd dd_165_80 ?_
        obtain ⟨r11, e12, h⟩ := z_bd h
        refine zg_invS_i (av := [.inl v1, .inl (v4 + v7)]) (st := [.inl (v6 ||| (0 : Int32))]) (n := 2) dd_165_81 ca_166 zw_1237 zw_1238 (mt_fm_has e12) rfl ⟨by decide +kernel, by decide⟩ (Nat.le_of_ble_eq_true rfl) ?_
        refine zg_if_eq (tgt := 99) dd_165_84 (by decide) (fun q13 => ?_) (fun q13 => ?_)
        · replace h := z_t h q13
          refine zg_iconst dd_165_99 kI_0 ?_
          refine zg_ior dd_165_100 ?_
          refine zg_istore dd_165_101 (Nat.le_of_ble_eq_true rfl) (lv' := [(6, .inl ((v6 ||| (0 : Int32)) ||| (0 : Int32))), (1, .inl v1), (3, .inl v3), (4, .inl v4), (5, .inl v5), (7, .inl v7)]) rfl ?_
          refine zg_iinc dd_165_103 (j := 5) rfl (v := (v7 + (1 : Int32))) (by rw [kI_1]) (Nat.le_of_ble_eq_true rfl) (lv' := [(7, .inl (v7 + (1 : Int32))), (6, .inl ((v6 ||| (0 : Int32)) ||| (0 : Int32))), (1, .inl v1), (3, .inl v3), (4, .inl v4), (5, .inl v5)]) rfl ?_
          refine zg_goto (tgt := 37) dd_165_106 (by decide) ?_
          refine zg_sub [2, 3, 4, 5, 1, 0] rfl ?_
          exact ih _ _ _ _ _ _ h
        · replace h := z_f h q13
          refine zg_iconst dd_165_87 kI_1 ?_
          refine zg_iload_n dd_165_88 rfl (j := 2) rfl ?_
          refine zg_iload dd_165_89 (j := 5) rfl ?_
          refine zg_iload dd_165_91 (j := 4) rfl ?_
          refine zg_ixor dd_165_93 ?_
          refine zg_iadd dd_165_94 ?_
          refine zg_ishl dd_165_95 ?_
          refine zg_goto (tgt := 100) dd_165_96 (by decide) ?_
          refine zg_ior dd_165_100 ?_
          refine zg_istore dd_165_101 (Nat.le_of_ble_eq_true rfl) (lv' := [(6, .inl ((v6 ||| (0 : Int32)) ||| ((1 : Int32) <<< ((v3 + (v7 ^^^ v5)) &&& 31)))), (1, .inl v1), (3, .inl v3), (4, .inl v4), (5, .inl v5), (7, .inl v7)]) rfl ?_
          refine zg_iinc dd_165_103 (j := 5) rfl (v := (v7 + (1 : Int32))) (by rw [kI_1]) (Nat.le_of_ble_eq_true rfl) (lv' := [(7, .inl (v7 + (1 : Int32))), (6, .inl ((v6 ||| (0 : Int32)) ||| ((1 : Int32) <<< ((v3 + (v7 ^^^ v5)) &&& 31)))), (1, .inl v1), (3, .inl v3), (4, .inl v4), (5, .inl v5)]) rfl ?_
          refine zg_goto (tgt := 37) dd_165_106 (by decide) ?_
          refine zg_sub [2, 3, 4, 5, 1, 0] rfl ?_
          exact ih _ _ _ _ _ _ h
      · replace h := z_f h q10
        refine zg_iconst dd_165_56 kI_1 ?_
        refine zg_iload dd_165_57 (j := 2) rfl ?_
        refine zg_iload dd_165_59 (j := 5) rfl ?_
        refine zg_iload dd_165_61 (j := 3) rfl ?_
        refine zg_ixor dd_165_63 ?_
        refine zg_iadd dd_165_64 ?_
        refine zg_ishl dd_165_65 ?_
        refine zg_goto (tgt := 70) dd_165_66 (by decide) ?_
        refine zg_ior dd_165_70 ?_
        refine zg_istore dd_165_71 (Nat.le_of_ble_eq_true rfl) (lv' := [(6, .inl (v6 ||| ((1 : Int32) <<< ((v4 + (v7 ^^^ v5)) &&& 31)))), (1, .inl v1), (3, .inl v3), (4, .inl v4), (5, .inl v5), (7, .inl v7)]) rfl ?_
        refine zg_iload dd_165_73 (j := 0) rfl ?_
        refine zg_iload_n dd_165_75 rfl (j := 1) rfl ?_
        refine zg_iload dd_165_76 (j := 3) rfl ?_
        refine zg_iload dd_165_78 (j := 5) rfl ?_
        refine zg_iadd dd_165_80 ?_
        obtain ⟨r14, e15, h⟩ := z_bd h
        refine zg_invS_i (av := [.inl v1, .inl (v4 + v7)]) (st := [.inl (v6 ||| ((1 : Int32) <<< ((v4 + (v7 ^^^ v5)) &&& 31)))]) (n := 2) dd_165_81 ca_166 zw_1237 zw_1238 (mt_fm_has e15) rfl ⟨by decide +kernel, by decide⟩ (Nat.le_of_ble_eq_true rfl) ?_
        refine zg_if_eq (tgt := 99) dd_165_84 (by decide) (fun q16 => ?_) (fun q16 => ?_)
        · replace h := z_t h q16
          refine zg_iconst dd_165_99 kI_0 ?_
          refine zg_ior dd_165_100 ?_
          refine zg_istore dd_165_101 (Nat.le_of_ble_eq_true rfl) (lv' := [(6, .inl ((v6 ||| ((1 : Int32) <<< ((v4 + (v7 ^^^ v5)) &&& 31))) ||| (0 : Int32))), (1, .inl v1), (3, .inl v3), (4, .inl v4), (5, .inl v5), (7, .inl v7)]) rfl ?_
          refine zg_iinc dd_165_103 (j := 5) rfl (v := (v7 + (1 : Int32))) (by rw [kI_1]) (Nat.le_of_ble_eq_true rfl) (lv' := [(7, .inl (v7 + (1 : Int32))), (6, .inl ((v6 ||| ((1 : Int32) <<< ((v4 + (v7 ^^^ v5)) &&& 31))) ||| (0 : Int32))), (1, .inl v1), (3, .inl v3), (4, .inl v4), (5, .inl v5)]) rfl ?_
          refine zg_goto (tgt := 37) dd_165_106 (by decide) ?_
          refine zg_sub [2, 3, 4, 5, 1, 0] rfl ?_
          exact ih _ _ _ _ _ _ h
        · replace h := z_f h q16
          refine zg_iconst dd_165_87 kI_1 ?_
          refine zg_iload_n dd_165_88 rfl (j := 2) rfl ?_
          refine zg_iload dd_165_89 (j := 5) rfl ?_
          refine zg_iload dd_165_91 (j := 4) rfl ?_
          refine zg_ixor dd_165_93 ?_
          refine zg_iadd dd_165_94 ?_
          refine zg_ishl dd_165_95 ?_
          refine zg_goto (tgt := 100) dd_165_96 (by decide) ?_
          refine zg_ior dd_165_100 ?_
          refine zg_istore dd_165_101 (Nat.le_of_ble_eq_true rfl) (lv' := [(6, .inl ((v6 ||| ((1 : Int32) <<< ((v4 + (v7 ^^^ v5)) &&& 31))) ||| ((1 : Int32) <<< ((v3 + (v7 ^^^ v5)) &&& 31)))), (1, .inl v1), (3, .inl v3), (4, .inl v4), (5, .inl v5), (7, .inl v7)]) rfl ?_
          refine zg_iinc dd_165_103 (j := 5) rfl (v := (v7 + (1 : Int32))) (by rw [kI_1]) (Nat.le_of_ble_eq_true rfl) (lv' := [(7, .inl (v7 + (1 : Int32))), (6, .inl ((v6 ||| ((1 : Int32) <<< ((v4 + (v7 ^^^ v5)) &&& 31))) ||| ((1 : Int32) <<< ((v3 + (v7 ^^^ v5)) &&& 31)))), (1, .inl v1), (3, .inl v3), (4, .inl v4), (5, .inl v5)]) rfl ?_
          refine zg_goto (tgt := 37) dd_165_106 (by decide) ?_
          refine zg_sub [2, 3, 4, 5, 1, 0] rfl ?_
          exact ih _ _ _ _ _ _ h
set_option maxRecDepth 20000 in
theorem mt_fm_crossed {I : zI} {a1 : Int32} {a2 : Int32} {res : Int32} (h : fm_crossed I a1 a2 = some res) : zM 2 ym_165 [.inr (.inr (some 0)), .inl a1, .inl a2] (zMs, zMr, I) (some (.inl res)) (zMs, zMr, I) 0 0 := by
  refine zM_of (by decide) (Nat.le_of_ble_eq_true rfl) (lv := [(0, .inr (.inr (some 0))), (1, .inl a1), (2, .inl a2)]) rfl ?_
  rw [fm_crossed] at h
  refine zg_iconst dd_165_0 kI_2 ?_
  refine zg_aload_n dd_165_1 rfl (j := 0) rfl ?_
  refine zg_iload_n dd_165_2 rfl (j := 2) rfl ?_
  refine zg_iconst dd_165_3 kI_0 ?_
  obtain ⟨r1, e2, h⟩ := z_bd h
  refine zg_invV_i (av := [.inl a2, .inl (0 : Int32)]) (st := [.inl (2 : Int32)]) (n := 2) dd_165_4 ca_151 zw_1174 zw_1176 zv_37 zMs_0 zcl_12 rfl (mt_fm_joinOf e2) rfl ⟨by decide +kernel, by decide⟩ (Nat.le_of_ble_eq_true rfl) ?_
  refine zg_iconst dd_165_7 kI_4 ?_
  refine zg_idiv dd_165_8 (by decide) ?_
  refine zg_imul dd_165_9 ?_
  refine zg_istore_n dd_165_10 rfl (Nat.le_of_ble_eq_true rfl) (lv' := [(3, .inl ((2 : Int32) * (r1 / (4 : Int32)))), (0, .inr (.inr (some 0))), (1, .inl a1), (2, .inl a2)]) rfl ?_
  refine zg_iconst dd_165_11 kI_2 ?_
  refine zg_aload_n dd_165_12 rfl (j := 1) rfl ?_
  refine zg_iload_n dd_165_13 rfl (j := 3) rfl ?_
  refine zg_iconst dd_165_14 kI_1 ?_
  obtain ⟨r3, e4, h⟩ := z_bd h
  refine zg_invV_i (av := [.inl a2, .inl (1 : Int32)]) (st := [.inl (2 : Int32)]) (n := 2) dd_165_15 ca_151 zw_1174 zw_1176 zv_37 zMs_0 zcl_12 rfl (mt_fm_joinOf e4) rfl ⟨by decide +kernel, by decide⟩ (Nat.le_of_ble_eq_true rfl) ?_
  refine zg_iconst dd_165_18 kI_4 ?_
  refine zg_idiv dd_165_19 (by decide) ?_
  refine zg_imul dd_165_20 ?_
  refine zg_istore dd_165_21 (Nat.le_of_ble_eq_true rfl) (lv' := [(4, .inl ((2 : Int32) * (r3 / (4 : Int32)))), (3, .inl ((2 : Int32) * (r1 / (4 : Int32)))), (0, .inr (.inr (some 0))), (1, .inl a1), (2, .inl a2)]) rfl ?_
  refine zg_aload_n dd_165_23 rfl (j := 2) rfl ?_
  refine zg_iload_n dd_165_24 rfl (j := 4) rfl ?_
  refine zg_iconst dd_165_25 kI_2 ?_
  obtain ⟨r5, e6, h⟩ := z_bd h
  refine zg_invV_i (av := [.inl a2, .inl (2 : Int32)]) (st := []) (n := 2) dd_165_26 ca_151 zw_1174 zw_1176 zv_37 zMs_0 zcl_12 rfl (mt_fm_joinOf e6) rfl ⟨by decide +kernel, by decide⟩ (Nat.le_of_ble_eq_true rfl) ?_
  refine zg_istore dd_165_29 (Nat.le_of_ble_eq_true rfl) (lv' := [(5, .inl r5), (4, .inl ((2 : Int32) * (r3 / (4 : Int32)))), (3, .inl ((2 : Int32) * (r1 / (4 : Int32)))), (0, .inr (.inr (some 0))), (1, .inl a1), (2, .inl a2)]) rfl ?_
  refine zg_iconst dd_165_31 kI_0 ?_
  refine zg_istore dd_165_32 (Nat.le_of_ble_eq_true rfl) (lv' := [(6, .inl (0 : Int32)), (5, .inl r5), (4, .inl ((2 : Int32) * (r3 / (4 : Int32)))), (3, .inl ((2 : Int32) * (r1 / (4 : Int32)))), (0, .inr (.inr (some 0))), (1, .inl a1), (2, .inl a2)]) rfl ?_
  refine zg_iconst dd_165_34 kI_0 ?_
  refine zg_istore dd_165_35 (Nat.le_of_ble_eq_true rfl) (lv' := [(7, .inl (0 : Int32)), (6, .inl (0 : Int32)), (5, .inl r5), (4, .inl ((2 : Int32) * (r3 / (4 : Int32)))), (3, .inl ((2 : Int32) * (r1 / (4 : Int32)))), (0, .inr (.inr (some 0))), (1, .inl a1), (2, .inl a2)]) rfl ?_
  refine zg_sub [6, 4, 3, 2, 1, 0] rfl ?_
  refine lt_fm_crossed_L37  _ _ _ _ _ _ _ h
/-! TurnedLandModel.reachedBut[0, None, None, None] -/
def fm_reachedBut_L22 (I : zI) (k64 : Int32 → Int32 → Int32 → Int32 → Option Int32) : Nat → Int32 → Int32 → Int32 → Int32 → Int32 → Option Int32
  | 0, _, _, _, _, _ => none
  | nf + 1, v2, v3, v4, v5, v6 =>
    if (I 1 (1 : Int32).toNatClampNeg) ≤ v6 then
      k64 v2 v3 v4 v5
    else
      if v6 = v2 then
        fm_reachedBut_L22 I k64 nf v2 v3 v4 v5 (v6 + (1 : Int32))
      else
        if v6 = v3 then
          fm_reachedBut_L22 I k64 nf v2 v3 v4 v5 (v6 + (1 : Int32))
        else
          (fm_crossed I v5 v6).bind fun r5 =>
          fm_reachedBut_L22 I k64 nf v2 v3 (v4 ||| r5) v5 (v6 + (1 : Int32))
def fm_reachedBut_L8 (I : zI) : Nat → Int32 → Int32 → Int32 → Int32 → Option Int32
  | 0, _, _, _, _ => none
  | nf + 1, v2, v3, v4, v5 =>
    if v4 = v5 then
      some v4
    else
      fm_reachedBut_L22 I
        (fun (u7 : Int32) (u8 : Int32) (u9 : Int32) (u10 : Int32) =>
          fm_reachedBut_L8 I nf u7 u8 u9 u10
        )
        100 v2 v3 v4 v4 (0 : Int32)
def fm_reachedBut (I : zI) (a1 : Int32) (a2 : Int32) (a3 : Int32) : Option Int32 :=
  fm_reachedBut_L8 I
    100 a2 a3 ((1 : Int32) <<< (a1 &&& 31)) (0 : Int32)
set_option maxRecDepth 20000 in
theorem lt_fm_reachedBut_L22 {res : Int32} {I : zI} {k64 : Int32 → Int32 → Int32 → Int32 → Option Int32} (hk64 : ∀ (v2 : Int32) (v3 : Int32) (v4 : Int32) (v5 : Int32), k64 v2 v3 v4 v5 = some res → zG 3 ym_164 0 0 (some (.inl res)) (zMs, zMr, I) zMs.length 64 [(0, .inr (.inr (some 0))), (2, .inl v2), (3, .inl v3), (4, .inl v4), (5, .inl v5)] [] (zMs, zMr, I) 0 0) : ∀ (nf : Nat) (v2 : Int32) (v3 : Int32) (v4 : Int32) (v5 : Int32) (v6 : Int32), fm_reachedBut_L22 I k64 nf v2 v3 v4 v5 v6 = some res → zG 3 ym_164 0 0 (some (.inl res)) (zMs, zMr, I) zMs.length 22 [(0, .inr (.inr (some 0))), (2, .inl v2), (3, .inl v3), (4, .inl v4), (5, .inl v5), (6, .inl v6)] [] (zMs, zMr, I) 0 0 := by
  intro nf
  induction nf with
  | zero =>
    intro v2 v3 v4 v5 v6 h
    have h2 : none = some res := h
    cases h2
  | succ nf ih =>
    intro v2 v3 v4 v5 v6 h
    rw [fm_reachedBut_L22] at h
    refine zg_iload dd_164_22 (j := 5) rfl ?_
    refine zg_aload_n dd_164_24 rfl (j := 0) rfl ?_
    refine zg_getR dd_164_25 zl_M_9 zMs_0 rfl zMr_0_0 ?_
    refine zg_iconst dd_164_28 kI_1 ?_
    refine zg_iald dd_164_29 zMs_1 (by decide) ?_
    refine zg_icmp_ge (tgt := 64) dd_164_30 (by decide) (fun q2 => ?_) (fun q2 => ?_)
    · replace h := z_t h q2
      refine zg_sub [0, 1, 2, 3, 4] rfl ?_
      exact hk64 _ _ _ _ h
    · replace h := z_f h q2
      refine zg_iload dd_164_33 (j := 5) rfl ?_
      refine zg_iload_n dd_164_35 rfl (j := 1) rfl ?_
      refine zg_icmp_eq (tgt := 58) dd_164_36 (by decide) (fun q3 => ?_) (fun q3 => ?_)
      · replace h := z_t h q3
        refine zg_iinc dd_164_58 (j := 5) rfl (v := (v6 + (1 : Int32))) (by rw [kI_1]) (Nat.le_of_ble_eq_true rfl) (lv' := [(6, .inl (v6 + (1 : Int32))), (0, .inr (.inr (some 0))), (2, .inl v2), (3, .inl v3), (4, .inl v4), (5, .inl v5)]) rfl ?_
        refine zg_goto (tgt := 22) dd_164_61 (by decide) ?_
        refine zg_sub [1, 2, 3, 4, 5, 0] rfl ?_
        exact ih _ _ _ _ _ h
      · replace h := z_f h q3
        refine zg_iload dd_164_39 (j := 5) rfl ?_
        refine zg_iload_n dd_164_41 rfl (j := 2) rfl ?_
        refine zg_icmp_eq (tgt := 58) dd_164_42 (by decide) (fun q4 => ?_) (fun q4 => ?_)
        · replace h := z_t h q4
          refine zg_iinc dd_164_58 (j := 5) rfl (v := (v6 + (1 : Int32))) (by rw [kI_1]) (Nat.le_of_ble_eq_true rfl) (lv' := [(6, .inl (v6 + (1 : Int32))), (0, .inr (.inr (some 0))), (2, .inl v2), (3, .inl v3), (4, .inl v4), (5, .inl v5)]) rfl ?_
          refine zg_goto (tgt := 22) dd_164_61 (by decide) ?_
          refine zg_sub [1, 2, 3, 4, 5, 0] rfl ?_
          exact ih _ _ _ _ _ h
        · replace h := z_f h q4
          refine zg_iload dd_164_45 (j := 3) rfl ?_
          refine zg_aload_n dd_164_47 rfl (j := 0) rfl ?_
          refine zg_iload dd_164_48 (j := 4) rfl ?_
          refine zg_iload dd_164_50 (j := 5) rfl ?_
          obtain ⟨r5, e6, h⟩ := z_bd h
          refine zg_invV_i (av := [.inl v5, .inl v6]) (st := [.inl v4]) (n := 2) dd_164_52 ca_165 zw_1233 zw_1235 zv_45 zMs_0 zcl_12 rfl (mt_fm_crossed e6) rfl ⟨by decide +kernel, by decide⟩ (Nat.le_of_ble_eq_true rfl) ?_
          refine zg_ior dd_164_55 ?_
          refine zg_istore dd_164_56 (Nat.le_of_ble_eq_true rfl) (lv' := [(4, .inl (v4 ||| r5)), (0, .inr (.inr (some 0))), (2, .inl v2), (3, .inl v3), (5, .inl v5), (6, .inl v6)]) rfl ?_
          refine zg_iinc dd_164_58 (j := 5) rfl (v := (v6 + (1 : Int32))) (by rw [kI_1]) (Nat.le_of_ble_eq_true rfl) (lv' := [(6, .inl (v6 + (1 : Int32))), (4, .inl (v4 ||| r5)), (0, .inr (.inr (some 0))), (2, .inl v2), (3, .inl v3), (5, .inl v5)]) rfl ?_
          refine zg_goto (tgt := 22) dd_164_61 (by decide) ?_
          refine zg_sub [2, 3, 4, 1, 5, 0] rfl ?_
          exact ih _ _ _ _ _ h
set_option maxRecDepth 20000 in
theorem lt_fm_reachedBut_L8 {res : Int32} {I : zI} : ∀ (nf : Nat) (v2 : Int32) (v3 : Int32) (v4 : Int32) (v5 : Int32), fm_reachedBut_L8 I nf v2 v3 v4 v5 = some res → zG 3 ym_164 0 0 (some (.inl res)) (zMs, zMr, I) zMs.length 8 [(0, .inr (.inr (some 0))), (2, .inl v2), (3, .inl v3), (4, .inl v4), (5, .inl v5)] [] (zMs, zMr, I) 0 0 := by
  intro nf
  induction nf with
  | zero =>
    intro v2 v3 v4 v5 h
    have h2 : none = some res := h
    cases h2
  | succ nf ih =>
    intro v2 v3 v4 v5 h
    rw [fm_reachedBut_L8] at h
    refine zg_iload dd_164_8 (j := 3) rfl ?_
    refine zg_iload dd_164_10 (j := 4) rfl ?_
    refine zg_icmp_eq (tgt := 67) dd_164_12 (by decide) (fun q1 => ?_) (fun q1 => ?_)
    · replace h := z_t h q1
      refine zg_iload dd_164_67 (j := 3) rfl ?_
      obtain rfl := Option.some.inj h
      exact zg_iret dd_164_69 rfl
    · replace h := z_f h q1
      refine zg_iload dd_164_15 (j := 3) rfl ?_
      refine zg_istore dd_164_17 (Nat.le_of_ble_eq_true rfl) (lv' := [(5, .inl v4), (0, .inr (.inr (some 0))), (2, .inl v2), (3, .inl v3), (4, .inl v4)]) rfl ?_
      refine zg_iconst dd_164_19 kI_0 ?_
      refine zg_istore dd_164_20 (Nat.le_of_ble_eq_true rfl) (lv' := [(6, .inl (0 : Int32)), (5, .inl v4), (0, .inr (.inr (some 0))), (2, .inl v2), (3, .inl v3), (4, .inl v4)]) rfl ?_
      refine zg_sub [2, 3, 4, 5, 1, 0] rfl ?_
      refine lt_fm_reachedBut_L22 ?_ _ _ _ _ _ _ h
      · intro u7 u8 u9 u10 h
        beta_reduce at h
        refine zg_goto (tgt := 8) dd_164_64 (by decide) ?_
        refine zg_sub [0, 1, 2, 3, 4] rfl ?_
        exact ih _ _ _ _ h
set_option maxRecDepth 20000 in
theorem mt_fm_reachedBut {I : zI} {a1 : Int32} {a2 : Int32} {a3 : Int32} {res : Int32} (h : fm_reachedBut I a1 a2 a3 = some res) : zM 3 ym_164 [.inr (.inr (some 0)), .inl a1, .inl a2, .inl a3] (zMs, zMr, I) (some (.inl res)) (zMs, zMr, I) 0 0 := by
  refine zM_of (by decide) (Nat.le_of_ble_eq_true rfl) (lv := [(0, .inr (.inr (some 0))), (1, .inl a1), (2, .inl a2), (3, .inl a3)]) rfl ?_
  rw [fm_reachedBut] at h
  refine zg_iconst dd_164_0 kI_1 ?_
  refine zg_iload_n dd_164_1 rfl (j := 1) rfl ?_
  refine zg_ishl dd_164_2 ?_
  refine zg_istore dd_164_3 (Nat.le_of_ble_eq_true rfl) (lv' := [(4, .inl ((1 : Int32) <<< (a1 &&& 31))), (0, .inr (.inr (some 0))), (1, .inl a1), (2, .inl a2), (3, .inl a3)]) rfl ?_
  refine zg_iconst dd_164_5 kI_0 ?_
  refine zg_istore dd_164_6 (Nat.le_of_ble_eq_true rfl) (lv' := [(5, .inl (0 : Int32)), (4, .inl ((1 : Int32) <<< (a1 &&& 31))), (0, .inr (.inr (some 0))), (1, .inl a1), (2, .inl a2), (3, .inl a3)]) rfl ?_
  refine zg_sub [2, 4, 5, 1, 0] rfl ?_
  refine lt_fm_reachedBut_L8  _ _ _ _ _ h
/-! TurnedLandModel.parts[0] -/
def fm_parts_L30 (I : zI) (k78 : Int32 → Int32 → Int32 → Option Int32) : Nat → Int32 → Int32 → Int32 → Int32 → Int32 → Option Int32
  | 0, _, _, _, _, _ => none
  | nf + 1, v1, v2, v3, v4, v5 =>
    if v2 ≤ v5 then
      k78 v1 v2 v4
    else
      if v4 = 0 then
        fm_parts_L30 I k78 nf v1 v2 v3 (0 : Int32) (v5 + (1 : Int32))
      else
        (fm_has I v3 ((2 : Int32) * v5)).bind fun r6 =>
        if r6 = 0 then
          (fm_has I v3 (((2 : Int32) * v5) + (1 : Int32))).bind fun r9 =>
          if r9 = 0 then
            fm_parts_L30 I k78 nf v1 v2 v3 (1 : Int32) (v5 + (1 : Int32))
          else
            fm_parts_L30 I k78 nf v1 v2 v3 (0 : Int32) (v5 + (1 : Int32))
        else
          fm_parts_L30 I k78 nf v1 v2 v3 (0 : Int32) (v5 + (1 : Int32))
def fm_parts_L4 (I : zI) : Nat → Int32 → Int32 → Option Int32
  | 0, _, _ => none
  | nf + 1, v1, v2 =>
    if (I 1 (0 : Int32).toNatClampNeg) ≤ v2 then
      some v1
    else
      (fm_reachedBut I ((2 : Int32) * v2) (-1 : Int32) (-1 : Int32)).bind fun r2 =>
      fm_parts_L30 I
        (fun (u12 : Int32) (u13 : Int32) (u14 : Int32) =>
          if u14 = 0 then
            fm_parts_L4 I nf (u12 + (0 : Int32)) (u13 + (1 : Int32))
          else
            fm_parts_L4 I nf (u12 + (1 : Int32)) (u13 + (1 : Int32))
        )
        100 v1 v2 r2 (1 : Int32) (0 : Int32)
def fm_parts (I : zI) : Option Int32 :=
  fm_parts_L4 I
    100 (0 : Int32) (0 : Int32)
set_option maxRecDepth 20000 in
theorem lt_fm_parts_L30 {res : Int32} {I : zI} {k78 : Int32 → Int32 → Int32 → Option Int32} (hk78 : ∀ (v1 : Int32) (v2 : Int32) (v4 : Int32), k78 v1 v2 v4 = some res → zG 4 ym_163 0 0 (some (.inl res)) (zMs, zMr, I) zMs.length 78 [(0, .inr (.inr (some 0))), (1, .inl v1), (2, .inl v2), (4, .inl v4)] [] (zMs, zMr, I) 0 0) : ∀ (nf : Nat) (v1 : Int32) (v2 : Int32) (v3 : Int32) (v4 : Int32) (v5 : Int32), fm_parts_L30 I k78 nf v1 v2 v3 v4 v5 = some res → zG 4 ym_163 0 0 (some (.inl res)) (zMs, zMr, I) zMs.length 30 [(0, .inr (.inr (some 0))), (1, .inl v1), (2, .inl v2), (3, .inl v3), (4, .inl v4), (5, .inl v5)] [] (zMs, zMr, I) 0 0 := by
  intro nf
  induction nf with
  | zero =>
    intro v1 v2 v3 v4 v5 h
    have h2 : none = some res := h
    cases h2
  | succ nf ih =>
    intro v1 v2 v3 v4 v5 h
    rw [fm_parts_L30] at h
    refine zg_iload dd_163_30 (j := 5) rfl ?_
    refine zg_iload_n dd_163_32 rfl (j := 2) rfl ?_
    refine zg_icmp_ge (tgt := 78) dd_163_33 (by decide) (fun q4 => ?_) (fun q4 => ?_)
    · replace h := z_t h q4
      refine zg_sub [0, 1, 2, 4] rfl ?_
      exact hk78 _ _ _ h
    · replace h := z_f h q4
      refine zg_iload dd_163_36 (j := 4) rfl ?_
      refine zg_if_eq (tgt := 69) dd_163_38 (by decide) (fun q5 => ?_) (fun q5 => ?_)
      · replace h := z_t h q5
        refine zg_iconst dd_163_69 kI_0 ?_
        refine zg_istore dd_163_70 (Nat.le_of_ble_eq_true rfl) (lv' := [(4, .inl (0 : Int32)), (0, .inr (.inr (some 0))), (1, .inl v1), (2, .inl v2), (3, .inl v3), (5, .inl v5)]) rfl ?_
        refine zg_iinc dd_163_72 (j := 5) rfl (v := (v5 + (1 : Int32))) (by rw [kI_1]) (Nat.le_of_ble_eq_true rfl) (lv' := [(5, .inl (v5 + (1 : Int32))), (4, .inl (0 : Int32)), (0, .inr (.inr (some 0))), (1, .inl v1), (2, .inl v2), (3, .inl v3)]) rfl ?_
        refine zg_goto (tgt := 30) dd_163_75 (by decide) ?_
        refine zg_sub [2, 3, 4, 5, 1, 0] rfl ?_
        exact ih _ _ _ _ _ h
      · replace h := z_f h q5
        refine zg_iload_n dd_163_41 rfl (j := 3) rfl ?_
        refine zg_iconst dd_163_42 kI_2 ?_
        refine zg_iload dd_163_43 (j := 5) rfl ?_
        refine zg_imul dd_163_45 ?_
        obtain ⟨r6, e7, h⟩ := z_bd h
        refine zg_invS_i (av := [.inl v3, .inl ((2 : Int32) * v5)]) (st := []) (n := 2) dd_163_46 ca_166 zw_1237 zw_1238 (mt_fm_has e7) rfl ⟨by decide +kernel, by decide⟩ (Nat.le_of_ble_eq_true rfl) ?_
        refine zg_if_ne (tgt := 69) dd_163_49 (by decide) (fun q8 => ?_) (fun q8 => ?_)
        · replace h := z_f h q8
          refine zg_iconst dd_163_69 kI_0 ?_
          refine zg_istore dd_163_70 (Nat.le_of_ble_eq_true rfl) (lv' := [(4, .inl (0 : Int32)), (0, .inr (.inr (some 0))), (1, .inl v1), (2, .inl v2), (3, .inl v3), (5, .inl v5)]) rfl ?_
          refine zg_iinc dd_163_72 (j := 5) rfl (v := (v5 + (1 : Int32))) (by rw [kI_1]) (Nat.le_of_ble_eq_true rfl) (lv' := [(5, .inl (v5 + (1 : Int32))), (4, .inl (0 : Int32)), (0, .inr (.inr (some 0))), (1, .inl v1), (2, .inl v2), (3, .inl v3)]) rfl ?_
          refine zg_goto (tgt := 30) dd_163_75 (by decide) ?_
          refine zg_sub [2, 3, 4, 5, 1, 0] rfl ?_
          exact ih _ _ _ _ _ h
        · replace h := z_t h q8
          refine zg_iload_n dd_163_52 rfl (j := 3) rfl ?_
          refine zg_iconst dd_163_53 kI_2 ?_
          refine zg_iload dd_163_54 (j := 5) rfl ?_
          refine zg_imul dd_163_56 ?_
          refine zg_iconst dd_163_57 kI_1 ?_
          refine zg_iadd dd_163_58 ?_
          obtain ⟨r9, e10, h⟩ := z_bd h
          refine zg_invS_i (av := [.inl v3, .inl (((2 : Int32) * v5) + (1 : Int32))]) (st := []) (n := 2) dd_163_59 ca_166 zw_1237 zw_1238 (mt_fm_has e10) rfl ⟨by decide +kernel, by decide⟩ (Nat.le_of_ble_eq_true rfl) ?_
          refine zg_if_ne (tgt := 69) dd_163_62 (by decide) (fun q11 => ?_) (fun q11 => ?_)
          · replace h := z_f h q11
            refine zg_iconst dd_163_69 kI_0 ?_
            refine zg_istore dd_163_70 (Nat.le_of_ble_eq_true rfl) (lv' := [(4, .inl (0 : Int32)), (0, .inr (.inr (some 0))), (1, .inl v1), (2, .inl v2), (3, .inl v3), (5, .inl v5)]) rfl ?_
            refine zg_iinc dd_163_72 (j := 5) rfl (v := (v5 + (1 : Int32))) (by rw [kI_1]) (Nat.le_of_ble_eq_true rfl) (lv' := [(5, .inl (v5 + (1 : Int32))), (4, .inl (0 : Int32)), (0, .inr (.inr (some 0))), (1, .inl v1), (2, .inl v2), (3, .inl v3)]) rfl ?_
            refine zg_goto (tgt := 30) dd_163_75 (by decide) ?_
            refine zg_sub [2, 3, 4, 5, 1, 0] rfl ?_
            exact ih _ _ _ _ _ h
          · replace h := z_t h q11
            refine zg_iconst dd_163_65 kI_1 ?_
            refine zg_goto (tgt := 70) dd_163_66 (by decide) ?_
            refine zg_istore dd_163_70 (Nat.le_of_ble_eq_true rfl) (lv' := [(4, .inl (1 : Int32)), (0, .inr (.inr (some 0))), (1, .inl v1), (2, .inl v2), (3, .inl v3), (5, .inl v5)]) rfl ?_
            refine zg_iinc dd_163_72 (j := 5) rfl (v := (v5 + (1 : Int32))) (by rw [kI_1]) (Nat.le_of_ble_eq_true rfl) (lv' := [(5, .inl (v5 + (1 : Int32))), (4, .inl (1 : Int32)), (0, .inr (.inr (some 0))), (1, .inl v1), (2, .inl v2), (3, .inl v3)]) rfl ?_
            refine zg_goto (tgt := 30) dd_163_75 (by decide) ?_
            refine zg_sub [2, 3, 4, 5, 1, 0] rfl ?_
            exact ih _ _ _ _ _ h
set_option maxRecDepth 20000 in
theorem lt_fm_parts_L4 {res : Int32} {I : zI} : ∀ (nf : Nat) (v1 : Int32) (v2 : Int32), fm_parts_L4 I nf v1 v2 = some res → zG 4 ym_163 0 0 (some (.inl res)) (zMs, zMr, I) zMs.length 4 [(0, .inr (.inr (some 0))), (1, .inl v1), (2, .inl v2)] [] (zMs, zMr, I) 0 0 := by
  intro nf
  induction nf with
  | zero =>
    intro v1 v2 h
    have h2 : none = some res := h
    cases h2
  | succ nf ih =>
    intro v1 v2 h
    rw [fm_parts_L4] at h
    refine zg_iload_n dd_163_4 rfl (j := 2) rfl ?_
    refine zg_aload_n dd_163_5 rfl (j := 0) rfl ?_
    refine zg_getR dd_163_6 zl_M_9 zMs_0 rfl zMr_0_0 ?_
    refine zg_iconst dd_163_9 kI_0 ?_
    refine zg_iald dd_163_10 zMs_1 (by decide) ?_
    refine zg_icmp_ge (tgt := 97) dd_163_11 (by decide) (fun q1 => ?_) (fun q1 => ?_)
    · replace h := z_t h q1
      refine zg_iload_n dd_163_97 rfl (j := 1) rfl ?_
      obtain rfl := Option.some.inj h
      exact zg_iret dd_163_98 rfl
    · replace h := z_f h q1
      refine zg_aload_n dd_163_14 rfl (j := 0) rfl ?_
      refine zg_iconst dd_163_15 kI_2 ?_
      refine zg_iload_n dd_163_16 rfl (j := 2) rfl ?_
      refine zg_imul dd_163_17 ?_
      refine zg_iconst dd_163_18 kI_m1 ?_
      refine zg_iconst dd_163_19 kI_m1 ?_
      obtain ⟨r2, e3, h⟩ := z_bd h
      refine zg_invV_i (av := [.inl ((2 : Int32) * v2), .inl (-1 : Int32), .inl (-1 : Int32)]) (st := []) (n := 3) dd_163_20 ca_164 zw_1229 zw_1231 zv_44 zMs_0 zcl_12 rfl (mt_fm_reachedBut e3) rfl ⟨by decide +kernel, by decide⟩ (Nat.le_of_ble_eq_true rfl) ?_
      refine zg_istore_n dd_163_23 rfl (Nat.le_of_ble_eq_true rfl) (lv' := [(3, .inl r2), (0, .inr (.inr (some 0))), (1, .inl v1), (2, .inl v2)]) rfl ?_
      refine zg_iconst dd_163_24 kI_1 ?_
      refine zg_istore dd_163_25 (Nat.le_of_ble_eq_true rfl) (lv' := [(4, .inl (1 : Int32)), (3, .inl r2), (0, .inr (.inr (some 0))), (1, .inl v1), (2, .inl v2)]) rfl ?_
      refine zg_iconst dd_163_27 kI_0 ?_
      refine zg_istore dd_163_28 (Nat.le_of_ble_eq_true rfl) (lv' := [(5, .inl (0 : Int32)), (4, .inl (1 : Int32)), (3, .inl r2), (0, .inr (.inr (some 0))), (1, .inl v1), (2, .inl v2)]) rfl ?_
      refine zg_sub [3, 4, 5, 2, 1, 0] rfl ?_
      refine lt_fm_parts_L30 ?_ _ _ _ _ _ _ h
      · intro u12 u13 u14 h
        beta_reduce at h
        refine zg_iload_n dd_163_78 rfl (j := 1) rfl ?_
        refine zg_iload dd_163_79 (j := 3) rfl ?_
        refine zg_if_eq (tgt := 88) dd_163_81 (by decide) (fun q16 => ?_) (fun q16 => ?_)
        · replace h := z_t h q16
          refine zg_iconst dd_163_88 kI_0 ?_
          refine zg_iadd dd_163_89 ?_
          refine zg_istore_n dd_163_90 rfl (Nat.le_of_ble_eq_true rfl) (lv' := [(1, .inl (u12 + (0 : Int32))), (0, .inr (.inr (some 0))), (2, .inl u13), (4, .inl u14)]) rfl ?_
          refine zg_iinc dd_163_91 (j := 2) rfl (v := (u13 + (1 : Int32))) (by rw [kI_1]) (Nat.le_of_ble_eq_true rfl) (lv' := [(2, .inl (u13 + (1 : Int32))), (1, .inl (u12 + (0 : Int32))), (0, .inr (.inr (some 0))), (4, .inl u14)]) rfl ?_
          refine zg_goto (tgt := 4) dd_163_94 (by decide) ?_
          refine zg_sub [2, 1, 0] rfl ?_
          exact ih _ _ h
        · replace h := z_f h q16
          refine zg_iconst dd_163_84 kI_1 ?_
          refine zg_goto (tgt := 89) dd_163_85 (by decide) ?_
          refine zg_iadd dd_163_89 ?_
          refine zg_istore_n dd_163_90 rfl (Nat.le_of_ble_eq_true rfl) (lv' := [(1, .inl (u12 + (1 : Int32))), (0, .inr (.inr (some 0))), (2, .inl u13), (4, .inl u14)]) rfl ?_
          refine zg_iinc dd_163_91 (j := 2) rfl (v := (u13 + (1 : Int32))) (by rw [kI_1]) (Nat.le_of_ble_eq_true rfl) (lv' := [(2, .inl (u13 + (1 : Int32))), (1, .inl (u12 + (1 : Int32))), (0, .inr (.inr (some 0))), (4, .inl u14)]) rfl ?_
          refine zg_goto (tgt := 4) dd_163_94 (by decide) ?_
          refine zg_sub [2, 1, 0] rfl ?_
          exact ih _ _ h
set_option maxRecDepth 20000 in
theorem mt_fm_parts {I : zI} {res : Int32} (h : fm_parts I = some res) : zM 4 ym_163 [.inr (.inr (some 0))] (zMs, zMr, I) (some (.inl res)) (zMs, zMr, I) 0 0 := by
  refine zM_of (by decide) (Nat.le_of_ble_eq_true rfl) (lv := [(0, .inr (.inr (some 0)))]) rfl ?_
  rw [fm_parts] at h
  refine zg_iconst dd_163_0 kI_0 ?_
  refine zg_istore_n dd_163_1 rfl (Nat.le_of_ble_eq_true rfl) (lv' := [(1, .inl (0 : Int32)), (0, .inr (.inr (some 0)))]) rfl ?_
  refine zg_iconst dd_163_2 kI_0 ?_
  refine zg_istore_n dd_163_3 rfl (Nat.le_of_ble_eq_true rfl) (lv' := [(2, .inl (0 : Int32)), (1, .inl (0 : Int32)), (0, .inr (.inr (some 0)))]) rfl ?_
  refine zg_sub [2, 1, 0] rfl ?_
  refine lt_fm_parts_L4  _ _ _ h
/-! TurnedLandModel.rims[0] -/
def fm_rims_L58 (k102 : Int32 → Int32 → Int32 → Int32 → zI → Option (Int32 × zI)) : Nat → Int32 → Int32 → Int32 → Int32 → Int32 → zI → Option (Int32 × zI)
  | 0, _, _, _, _, _, _ => none
  | nf + 1, v1, v2, v3, v4, v5, I =>
    if v1 ≤ v5 then
      k102 v1 v2 v3 v4 I
    else
      if v4 = 0 then
        (fm_joinAt I v5).bind fun r7 =>
        if 0 ≤ r7 then
          fm_rims_L58 k102 nf v1 v2 v3 (0 : Int32) (v5 + (1 : Int32)) I
        else
          z_guard (zb v5 32) <|
          if (I 4 v5.toNatClampNeg) = v3 then
            fm_rims_L58 k102 nf v1 v2 v3 (1 : Int32) (v5 + (1 : Int32)) I
          else
            fm_rims_L58 k102 nf v1 v2 v3 (0 : Int32) (v5 + (1 : Int32)) I
      else
        fm_rims_L58 k102 nf v1 v2 v3 (1 : Int32) (v5 + (1 : Int32)) I
def fm_rims_L47 : Nat → Int32 → Int32 → Int32 → zI → Option (Int32 × zI)
  | 0, _, _, _, _ => none
  | nf + 1, v1, v2, v3, I =>
    if v1 ≤ v3 then
      some (v2, I)
    else
      fm_rims_L58
        (fun (u12 : Int32) (u13 : Int32) (u14 : Int32) (u15 : Int32) (J16 : zI) =>
          if u15 = 0 then
            fm_rims_L47 nf u12 (u13 + (0 : Int32)) (u14 + (1 : Int32)) J16
          else
            fm_rims_L47 nf u12 (u13 + (1 : Int32)) (u14 + (1 : Int32)) J16
        )
        100 v1 v2 v3 (0 : Int32) (0 : Int32) I
def fm_rims_L15 : Nat → Int32 → Int32 → zI → Option (Int32 × zI)
  | 0, _, _, _ => none
  | nf + 1, v1, v2, I =>
    if v1 ≤ v2 then
      fm_rims_L47
        100 v1 (0 : Int32) (0 : Int32) I
    else
      (fm_joinAt I v2).bind fun r18 =>
      if 0 ≤ r18 then
        fm_rims_L15 nf v1 (v2 + (1 : Int32)) I
      else
        (fm_second I v2).bind fun r21 =>
        (fm_oneOf I v2 r21).bind fun r23 =>
        fm_rims_L15 nf v1 (v2 + (1 : Int32)) r23
def fm_rims (I : zI) : Option (Int32 × zI) :=
  (fm_findCorners I).bind fun r1 =>
  fm_rims_L15
    100 ((4 : Int32) * (r1 1 (0 : Int32).toNatClampNeg)) (0 : Int32) r1
set_option maxRecDepth 20000 in
theorem lt_fm_rims_L58 {res : (Int32 × zI)} {k102 : Int32 → Int32 → Int32 → Int32 → zI → Option (Int32 × zI)} (hk102 : ∀ (v1 : Int32) (v2 : Int32) (v3 : Int32) (v4 : Int32) (J : zI), k102 v1 v2 v3 v4 J = some res → zG 4 ym_167 0 0 (some (.inl res.1)) (zMs, zMr, res.2) zMs.length 102 [(0, .inr (.inr (some 0))), (1, .inl v1), (2, .inl v2), (3, .inl v3), (4, .inl v4)] [] (zMs, zMr, J) 0 0) : ∀ (nf : Nat) (v1 : Int32) (v2 : Int32) (v3 : Int32) (v4 : Int32) (v5 : Int32) (I : zI), fm_rims_L58 k102 nf v1 v2 v3 v4 v5 I = some res → zG 4 ym_167 0 0 (some (.inl res.1)) (zMs, zMr, res.2) zMs.length 58 [(0, .inr (.inr (some 0))), (1, .inl v1), (2, .inl v2), (3, .inl v3), (4, .inl v4), (5, .inl v5)] [] (zMs, zMr, I) 0 0 := by
  intro nf
  induction nf with
  | zero =>
    intro v1 v2 v3 v4 v5 I h
    have h2 : none = some res := h
    cases h2
  | succ nf ih =>
    intro v1 v2 v3 v4 v5 I h
    rw [fm_rims_L58] at h
    refine zg_iload dd_167_58 (j := 5) rfl ?_
    refine zg_iload_n dd_167_60 rfl (j := 1) rfl ?_
    refine zg_icmp_ge (tgt := 102) dd_167_61 (by decide) (fun q5 => ?_) (fun q5 => ?_)
    · replace h := z_t h q5
      refine zg_sub [0, 1, 2, 3, 4] rfl ?_
      exact hk102 _ _ _ _ _ h
    · replace h := z_f h q5
      refine zg_iload dd_167_64 (j := 4) rfl ?_
      refine zg_if_ne (tgt := 89) dd_167_66 (by decide) (fun q6 => ?_) (fun q6 => ?_)
      · replace h := z_f h q6
        refine zg_iconst dd_167_89 kI_1 ?_
        refine zg_goto (tgt := 94) dd_167_90 (by decide) ?_
        refine zg_istore dd_167_94 (Nat.le_of_ble_eq_true rfl) (lv' := [(4, .inl (1 : Int32)), (0, .inr (.inr (some 0))), (1, .inl v1), (2, .inl v2), (3, .inl v3), (5, .inl v5)]) rfl ?_
        refine zg_iinc dd_167_96 (j := 5) rfl (v := (v5 + (1 : Int32))) (by rw [kI_1]) (Nat.le_of_ble_eq_true rfl) (lv' := [(5, .inl (v5 + (1 : Int32))), (4, .inl (1 : Int32)), (0, .inr (.inr (some 0))), (1, .inl v1), (2, .inl v2), (3, .inl v3)]) rfl ?_
        refine zg_goto (tgt := 58) dd_167_99 (by decide) ?_
        refine zg_sub [2, 3, 4, 5, 1, 0] rfl ?_
        exact ih _ _ _ _ _ _ h
      · replace h := z_t h q6
        refine zg_aload_n dd_167_69 rfl (j := 0) rfl ?_
        refine zg_iload dd_167_70 (j := 5) rfl ?_
        obtain ⟨r7, e8, h⟩ := z_bd h
        refine zg_invV_i (av := [.inl v5]) (st := []) (n := 1) dd_167_72 ca_150 zw_1170 zw_1172 zv_36 zMs_0 zcl_12 rfl (mt_fm_joinAt e8) rfl ⟨by decide +kernel, by decide⟩ (Nat.le_of_ble_eq_true rfl) ?_
        refine zg_if_ge (tgt := 93) dd_167_75 (by decide) (fun q9 => ?_) (fun q9 => ?_)
        · replace h := z_t h q9
          refine zg_iconst dd_167_93 kI_0 ?_
          refine zg_istore dd_167_94 (Nat.le_of_ble_eq_true rfl) (lv' := [(4, .inl (0 : Int32)), (0, .inr (.inr (some 0))), (1, .inl v1), (2, .inl v2), (3, .inl v3), (5, .inl v5)]) rfl ?_
          refine zg_iinc dd_167_96 (j := 5) rfl (v := (v5 + (1 : Int32))) (by rw [kI_1]) (Nat.le_of_ble_eq_true rfl) (lv' := [(5, .inl (v5 + (1 : Int32))), (4, .inl (0 : Int32)), (0, .inr (.inr (some 0))), (1, .inl v1), (2, .inl v2), (3, .inl v3)]) rfl ?_
          refine zg_goto (tgt := 58) dd_167_99 (by decide) ?_
          refine zg_sub [2, 3, 4, 5, 1, 0] rfl ?_
          exact ih _ _ _ _ _ _ h
        · replace h := z_f h q9
          refine zg_aload_n dd_167_78 rfl (j := 0) rfl ?_
          refine zg_getR dd_167_79 zl_M_19 zMs_0 rfl zMr_0_4 ?_
          refine zg_iload dd_167_82 (j := 5) rfl ?_
          obtain ⟨g10, h⟩ := z_gd h
          refine zg_iald dd_167_84 zMs_4 g10 ?_
          refine zg_iload_n dd_167_85 rfl (j := 3) rfl ?_
          refine zg_icmp_ne (tgt := 93) dd_167_86 (by decide) (fun q11 => ?_) (fun q11 => ?_)
          · replace h := z_f h q11
            refine zg_iconst dd_167_93 kI_0 ?_
            refine zg_istore dd_167_94 (Nat.le_of_ble_eq_true rfl) (lv' := [(4, .inl (0 : Int32)), (0, .inr (.inr (some 0))), (1, .inl v1), (2, .inl v2), (3, .inl v3), (5, .inl v5)]) rfl ?_
            refine zg_iinc dd_167_96 (j := 5) rfl (v := (v5 + (1 : Int32))) (by rw [kI_1]) (Nat.le_of_ble_eq_true rfl) (lv' := [(5, .inl (v5 + (1 : Int32))), (4, .inl (0 : Int32)), (0, .inr (.inr (some 0))), (1, .inl v1), (2, .inl v2), (3, .inl v3)]) rfl ?_
            refine zg_goto (tgt := 58) dd_167_99 (by decide) ?_
            refine zg_sub [2, 3, 4, 5, 1, 0] rfl ?_
            exact ih _ _ _ _ _ _ h
          · replace h := z_t h q11
            refine zg_iconst dd_167_89 kI_1 ?_
            refine zg_goto (tgt := 94) dd_167_90 (by decide) ?_
            refine zg_istore dd_167_94 (Nat.le_of_ble_eq_true rfl) (lv' := [(4, .inl (1 : Int32)), (0, .inr (.inr (some 0))), (1, .inl v1), (2, .inl v2), (3, .inl v3), (5, .inl v5)]) rfl ?_
            refine zg_iinc dd_167_96 (j := 5) rfl (v := (v5 + (1 : Int32))) (by rw [kI_1]) (Nat.le_of_ble_eq_true rfl) (lv' := [(5, .inl (v5 + (1 : Int32))), (4, .inl (1 : Int32)), (0, .inr (.inr (some 0))), (1, .inl v1), (2, .inl v2), (3, .inl v3)]) rfl ?_
            refine zg_goto (tgt := 58) dd_167_99 (by decide) ?_
            refine zg_sub [2, 3, 4, 5, 1, 0] rfl ?_
            exact ih _ _ _ _ _ _ h
set_option maxRecDepth 20000 in
theorem lt_fm_rims_L47 {res : (Int32 × zI)} : ∀ (nf : Nat) (v1 : Int32) (v2 : Int32) (v3 : Int32) (I : zI), fm_rims_L47 nf v1 v2 v3 I = some res → zG 4 ym_167 0 0 (some (.inl res.1)) (zMs, zMr, res.2) zMs.length 47 [(0, .inr (.inr (some 0))), (1, .inl v1), (2, .inl v2), (3, .inl v3)] [] (zMs, zMr, I) 0 0 := by
  intro nf
  induction nf with
  | zero =>
    intro v1 v2 v3 I h
    have h2 : none = some res := h
    cases h2
  | succ nf ih =>
    intro v1 v2 v3 I h
    rw [fm_rims_L47] at h
    refine zg_iload_n dd_167_47 rfl (j := 3) rfl ?_
    refine zg_iload_n dd_167_48 rfl (j := 1) rfl ?_
    refine zg_icmp_ge (tgt := 121) dd_167_49 (by decide) (fun q4 => ?_) (fun q4 => ?_)
    · replace h := z_t h q4
      refine zg_iload_n dd_167_121 rfl (j := 2) rfl ?_
      obtain rfl := Option.some.inj h
      exact zg_iret dd_167_122 rfl
    · replace h := z_f h q4
      refine zg_iconst dd_167_52 kI_0 ?_
      refine zg_istore dd_167_53 (Nat.le_of_ble_eq_true rfl) (lv' := [(4, .inl (0 : Int32)), (0, .inr (.inr (some 0))), (1, .inl v1), (2, .inl v2), (3, .inl v3)]) rfl ?_
      refine zg_iconst dd_167_55 kI_0 ?_
      refine zg_istore dd_167_56 (Nat.le_of_ble_eq_true rfl) (lv' := [(5, .inl (0 : Int32)), (4, .inl (0 : Int32)), (0, .inr (.inr (some 0))), (1, .inl v1), (2, .inl v2), (3, .inl v3)]) rfl ?_
      refine zg_sub [2, 3, 4, 5, 1, 0] rfl ?_
      refine lt_fm_rims_L58 ?_ _ _ _ _ _ _ _ h
      · intro u12 u13 u14 u15 J16 h
        beta_reduce at h
        refine zg_iload_n dd_167_102 rfl (j := 2) rfl ?_
        refine zg_iload dd_167_103 (j := 4) rfl ?_
        refine zg_if_eq (tgt := 112) dd_167_105 (by decide) (fun q17 => ?_) (fun q17 => ?_)
        · replace h := z_t h q17
          refine zg_iconst dd_167_112 kI_0 ?_
          refine zg_iadd dd_167_113 ?_
          refine zg_istore_n dd_167_114 rfl (Nat.le_of_ble_eq_true rfl) (lv' := [(2, .inl (u13 + (0 : Int32))), (0, .inr (.inr (some 0))), (1, .inl u12), (3, .inl u14), (4, .inl u15)]) rfl ?_
          refine zg_iinc dd_167_115 (j := 3) rfl (v := (u14 + (1 : Int32))) (by rw [kI_1]) (Nat.le_of_ble_eq_true rfl) (lv' := [(3, .inl (u14 + (1 : Int32))), (2, .inl (u13 + (0 : Int32))), (0, .inr (.inr (some 0))), (1, .inl u12), (4, .inl u15)]) rfl ?_
          refine zg_goto (tgt := 47) dd_167_118 (by decide) ?_
          refine zg_sub [2, 3, 1, 0] rfl ?_
          exact ih _ _ _ _ h
        · replace h := z_f h q17
          refine zg_iconst dd_167_108 kI_1 ?_
          refine zg_goto (tgt := 113) dd_167_109 (by decide) ?_
          refine zg_iadd dd_167_113 ?_
          refine zg_istore_n dd_167_114 rfl (Nat.le_of_ble_eq_true rfl) (lv' := [(2, .inl (u13 + (1 : Int32))), (0, .inr (.inr (some 0))), (1, .inl u12), (3, .inl u14), (4, .inl u15)]) rfl ?_
          refine zg_iinc dd_167_115 (j := 3) rfl (v := (u14 + (1 : Int32))) (by rw [kI_1]) (Nat.le_of_ble_eq_true rfl) (lv' := [(3, .inl (u14 + (1 : Int32))), (2, .inl (u13 + (1 : Int32))), (0, .inr (.inr (some 0))), (1, .inl u12), (4, .inl u15)]) rfl ?_
          refine zg_goto (tgt := 47) dd_167_118 (by decide) ?_
          refine zg_sub [2, 3, 1, 0] rfl ?_
          exact ih _ _ _ _ h
set_option maxRecDepth 20000 in
theorem lt_fm_rims_L15 {res : (Int32 × zI)} : ∀ (nf : Nat) (v1 : Int32) (v2 : Int32) (I : zI), fm_rims_L15 nf v1 v2 I = some res → zG 4 ym_167 0 0 (some (.inl res.1)) (zMs, zMr, res.2) zMs.length 15 [(0, .inr (.inr (some 0))), (1, .inl v1), (2, .inl v2)] [] (zMs, zMr, I) 0 0 := by
  intro nf
  induction nf with
  | zero =>
    intro v1 v2 I h
    have h2 : none = some res := h
    cases h2
  | succ nf ih =>
    intro v1 v2 I h
    rw [fm_rims_L15] at h
    refine zg_iload_n dd_167_15 rfl (j := 2) rfl ?_
    refine zg_iload_n dd_167_16 rfl (j := 1) rfl ?_
    refine zg_icmp_ge (tgt := 43) dd_167_17 (by decide) (fun q3 => ?_) (fun q3 => ?_)
    · replace h := z_t h q3
      refine zg_iconst dd_167_43 kI_0 ?_
      refine zg_istore_n dd_167_44 rfl (Nat.le_of_ble_eq_true rfl) (lv' := [(2, .inl (0 : Int32)), (0, .inr (.inr (some 0))), (1, .inl v1)]) rfl ?_
      refine zg_iconst dd_167_45 kI_0 ?_
      refine zg_istore_n dd_167_46 rfl (Nat.le_of_ble_eq_true rfl) (lv' := [(3, .inl (0 : Int32)), (2, .inl (0 : Int32)), (0, .inr (.inr (some 0))), (1, .inl v1)]) rfl ?_
      refine zg_sub [2, 3, 1, 0] rfl ?_
      refine lt_fm_rims_L47  _ _ _ _ _ h
    · replace h := z_f h q3
      refine zg_aload_n dd_167_20 rfl (j := 0) rfl ?_
      refine zg_iload_n dd_167_21 rfl (j := 2) rfl ?_
      obtain ⟨r18, e19, h⟩ := z_bd h
      refine zg_invV_i (av := [.inl v2]) (st := []) (n := 1) dd_167_22 ca_150 zw_1170 zw_1172 zv_36 zMs_0 zcl_12 rfl (mt_fm_joinAt e19) rfl ⟨by decide +kernel, by decide⟩ (Nat.le_of_ble_eq_true rfl) ?_
      refine zg_if_ge (tgt := 37) dd_167_25 (by decide) (fun q20 => ?_) (fun q20 => ?_)
      · replace h := z_t h q20
        refine zg_iinc dd_167_37 (j := 2) rfl (v := (v2 + (1 : Int32))) (by rw [kI_1]) (Nat.le_of_ble_eq_true rfl) (lv' := [(2, .inl (v2 + (1 : Int32))), (0, .inr (.inr (some 0))), (1, .inl v1)]) rfl ?_
        refine zg_goto (tgt := 15) dd_167_40 (by decide) ?_
        refine zg_sub [1, 2, 0] rfl ?_
        exact ih _ _ _ h
      · replace h := z_f h q20
        refine zg_aload_n dd_167_28 rfl (j := 0) rfl ?_
        refine zg_iload_n dd_167_29 rfl (j := 2) rfl ?_
        refine zg_iload_n dd_167_30 rfl (j := 2) rfl ?_
        obtain ⟨r21, e22, h⟩ := z_bd h
        refine zg_invS_i (av := [.inl v2]) (st := [.inl v2, .inr (.inr (some 0))]) (n := 1) dd_167_31 ca_161 zw_1216 zw_1217 (mt_fm_second e22) rfl ⟨by decide +kernel, by decide⟩ (Nat.le_of_ble_eq_true rfl) ?_
        obtain ⟨r23, e24, h⟩ := z_bd h
        refine zg_invV_v (av := [.inl v2, .inl r21]) (st := []) (n := 2) dd_167_34 ca_162 zw_1219 zw_1221 zv_42 zMs_0 zcl_12 rfl (mt_fm_oneOf e24) rfl ⟨by decide +kernel, by decide⟩ (Nat.le_of_ble_eq_true rfl) ?_
        refine zg_iinc dd_167_37 (j := 2) rfl (v := (v2 + (1 : Int32))) (by rw [kI_1]) (Nat.le_of_ble_eq_true rfl) (lv' := [(2, .inl (v2 + (1 : Int32))), (0, .inr (.inr (some 0))), (1, .inl v1)]) rfl ?_
        refine zg_goto (tgt := 15) dd_167_40 (by decide) ?_
        refine zg_sub [1, 2, 0] rfl ?_
        exact ih _ _ _ h
set_option maxRecDepth 20000 in
theorem mt_fm_rims {I : zI} {res : (Int32 × zI)} (h : fm_rims I = some res) : zM 4 ym_167 [.inr (.inr (some 0))] (zMs, zMr, I) (some (.inl res.1)) (zMs, zMr, res.2) 0 0 := by
  refine zM_of (by decide) (Nat.le_of_ble_eq_true rfl) (lv := [(0, .inr (.inr (some 0)))]) rfl ?_
  rw [fm_rims] at h
  refine zg_aload_n dd_167_0 rfl (j := 0) rfl ?_
  obtain ⟨r1, e2, h⟩ := z_bd h
  refine zg_invV_v (av := []) (st := []) (n := 0) dd_167_1 ca_160 zw_1212 zw_1214 zv_41 zMs_0 zcl_12 rfl (mt_fm_findCorners e2) rfl ⟨by decide +kernel, by decide⟩ (Nat.le_of_ble_eq_true rfl) ?_
  refine zg_iconst dd_167_4 kI_4 ?_
  refine zg_aload_n dd_167_5 rfl (j := 0) rfl ?_
  refine zg_getR dd_167_6 zl_M_9 zMs_0 rfl zMr_0_0 ?_
  refine zg_iconst dd_167_9 kI_0 ?_
  refine zg_iald dd_167_10 zMs_1 (by decide) ?_
  refine zg_imul dd_167_11 ?_
  refine zg_istore_n dd_167_12 rfl (Nat.le_of_ble_eq_true rfl) (lv' := [(1, .inl ((4 : Int32) * (r1 1 (0 : Int32).toNatClampNeg))), (0, .inr (.inr (some 0)))]) rfl ?_
  refine zg_iconst dd_167_13 kI_0 ?_
  refine zg_istore_n dd_167_14 rfl (Nat.le_of_ble_eq_true rfl) (lv' := [(2, .inl (0 : Int32)), (1, .inl ((4 : Int32) * (r1 1 (0 : Int32).toNatClampNeg))), (0, .inr (.inr (some 0)))]) rfl ?_
  refine zg_sub [2, 1, 0] rfl ?_
  refine lt_fm_rims_L15  _ _ _ _ h
