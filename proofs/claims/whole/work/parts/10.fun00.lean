/-! TurnedLand.within[None, None, None] -/
def fc_T_within (I : zI) (a0 : Int32) (a1 : Int32) (a2 : Int32) : Option Int32 :=
  if a0 < a1 then
    some (0 : Int32)
  else
    if a2 < a0 then
      some (0 : Int32)
    else
      some (1 : Int32)
set_option maxRecDepth 20000 in
theorem mt_fc_T_within {I : zI} {a0 : Int32} {a1 : Int32} {a2 : Int32} {res : Int32} (h : fc_T_within I a0 a1 a2 = some res) : zM 1 ym_1 [.inl a0, .inl a1, .inl a2] (zCs, zCr, I) (some (.inl res)) (zCs, zCr, I) 0 0 := by
  refine zM_of (by decide) (Nat.le_of_ble_eq_true rfl) (lv := [(0, .inl a0), (1, .inl a1), (2, .inl a2)]) rfl ?_
  rw [fc_T_within] at h
  refine zg_iload_n dd_1_0 rfl (j := 0) rfl ?_
  refine zg_iload_n dd_1_1 rfl (j := 1) rfl ?_
  refine zg_icmp_lt (tgt := 14) dd_1_2 (by decide) (fun q1 => ?_) (fun q1 => ?_)
  · replace h := z_t h q1
    refine zg_iconst dd_1_14 kI_0 ?_
    obtain rfl := Option.some.inj h
    exact zg_zret dd_1_15 rfl zSt_b0.1
  · replace h := z_f h q1
    refine zg_iload_n dd_1_5 rfl (j := 0) rfl ?_
    refine zg_iload_n dd_1_6 rfl (j := 2) rfl ?_
    refine zg_icmp_gt (tgt := 14) dd_1_7 (by decide) (fun q2 => ?_) (fun q2 => ?_)
    · replace h := z_t h q2
      refine zg_iconst dd_1_14 kI_0 ?_
      obtain rfl := Option.some.inj h
      exact zg_zret dd_1_15 rfl zSt_b0.1
    · replace h := z_f h q2
      refine zg_iconst dd_1_10 kI_1 ?_
      refine zg_goto (tgt := 15) dd_1_11 (by decide) ?_
      obtain rfl := Option.some.inj h
      exact zg_zret dd_1_15 rfl zSt_b1.1
/-! TurnedLand.refuse[0, None] -/
def fc_T_refuse (I : zI) (a1 : Int32) : Option (Int32 × zI) :=
  (fc_T_within I a1 (1 : Int32) (6 : Int32)).bind fun r1 =>
  if r1 = 0 then
    some (((-1000000 : Int32) - a1), I)
  else
    z_guard (zb a1 7) <|
    some (((-1000000 : Int32) - a1), (zup I 93 a1.toNatClampNeg ((I 93 a1.toNatClampNeg) + (1 : Int32))))
set_option maxRecDepth 20000 in
theorem mt_fc_T_refuse {I : zI} {a1 : Int32} {res : (Int32 × zI)} (h : fc_T_refuse I a1 = some res) : zM 2 ym_2 [.inr (.inr (some 0)), .inl a1] (zCs, zCr, I) (some (.inl res.1)) (zCs, zCr, res.2) 0 0 := by
  refine zM_of (by decide) (Nat.le_of_ble_eq_true rfl) (lv := [(0, .inr (.inr (some 0))), (1, .inl a1)]) rfl ?_
  rw [fc_T_refuse] at h
  refine zg_iload_n dd_2_0 rfl (j := 1) rfl ?_
  refine zg_iconst dd_2_1 kI_1 ?_
  refine zg_bipush dd_2_2 kB_6 ?_
  obtain ⟨r1, e2, h⟩ := z_bd h
  refine zg_invS_i (av := [.inl a1, .inl (1 : Int32), .inl (6 : Int32)]) (st := []) (n := 3) dd_2_4 ca_1 zw_427 zw_428 (mt_fc_T_within e2) rfl ⟨by decide +kernel, by decide⟩ (Nat.le_of_ble_eq_true rfl) ?_
  refine zg_if_eq (tgt := 20) dd_2_7 (by decide) (fun q3 => ?_) (fun q3 => ?_)
  · replace h := z_t h q3
    refine zg_ldcw dd_2_20 zw_434 ?_
    refine zg_iload_n dd_2_23 rfl (j := 1) rfl ?_
    refine zg_isub dd_2_24 ?_
    obtain rfl := Option.some.inj h
    exact zg_iret dd_2_25 rfl
  · replace h := z_f h q3
    refine zg_aload_n dd_2_10 rfl (j := 0) rfl ?_
    refine zg_getR dd_2_11 zl_T_23 zCs_0 rfl zCr_0_3 ?_
    refine zg_iload_n dd_2_14 rfl (j := 1) rfl ?_
    refine zg_dup2 dd_2_15 rfl rfl ?_
    obtain ⟨g4, h⟩ := z_gd h
    refine zg_iald (w := (I 93 a1.toNatClampNeg)) dd_2_16 zCs_93 g4 rfl ?_
    refine zg_iconst dd_2_17 kI_1 ?_
    refine zg_iadd dd_2_18 ?_
    refine zg_iast dd_2_19 zCs_93 g4 ?_
    refine zg_ldcw dd_2_20 zw_434 ?_
    refine zg_iload_n dd_2_23 rfl (j := 1) rfl ?_
    refine zg_isub dd_2_24 ?_
    obtain rfl := Option.some.inj h
    exact zg_iret dd_2_25 rfl
/-! TurnedLand.square(0, None) -/
def fc_T_square (I : zI) (a1 : Int32) : Option (Int32 × zI) :=
  (fc_T_within I a1 (1 : Int32) (99 : Int32)).bind fun r1 =>
  if r1 = 0 then
    (fc_T_refuse I (1 : Int32)).bind fun r8 =>
    some (r8.1, r8.2)
  else
    if (I 2 0) < (8 : Int32) then
      z_guard (zb (I 2 0) 8) <|
      some ((I 2 0), (zup (zup I 3 (I 2 0).toNatClampNeg a1) 2 0 ((I 2 0) + (1 : Int32))))
    else
      (fc_T_refuse I (4 : Int32)).bind fun r6 =>
      some (r6.1, r6.2)
set_option maxRecDepth 20000 in
theorem mt_fc_T_square {I : zI} {a1 : Int32} {res : (Int32 × zI)} (h : fc_T_square I a1 = some res) : zM 3 ym_0 [.inr (.inr (some 0)), .inl a1] (zCs, zCr, I) (some (.inl res.1)) (zCs, zCr, res.2) 0 0 := by
  refine zM_of (by decide) (Nat.le_of_ble_eq_true rfl) (lv := [(0, .inr (.inr (some 0))), (1, .inl a1)]) rfl ?_
  rw [fc_T_square] at h
  refine zg_aload_n dd_0_0 rfl (j := 0) rfl ?_
  refine zg_getR dd_0_1 zl_T_12 zCs_0 rfl zCr_0_0 ?_
  refine zg_getR dd_0_4 zl_T_76 zCs_1 rfl zCr_1_0 ?_
  refine zg_astore_n dd_0_7 rfl (Nat.le_of_ble_eq_true rfl) (lv' := [(2, .inr (.inr (some 2))), (0, .inr (.inr (some 0))), (1, .inl a1)]) rfl ?_
  refine zg_iload_n dd_0_8 rfl (j := 2) rfl ?_
  refine zg_iconst dd_0_9 kI_1 ?_
  refine zg_bipush dd_0_10 kB_99 ?_
  obtain ⟨r1, e2, h⟩ := z_bd h
  refine zg_invS_i (av := [.inl a1, .inl (1 : Int32), .inl (99 : Int32)]) (st := []) (n := 3) dd_0_12 ca_1 zw_427 zw_428 (mt_fc_T_within e2) rfl ⟨by decide +kernel, by decide⟩ (Nat.le_of_ble_eq_true rfl) ?_
  refine zg_if_ne (tgt := 24) dd_0_15 (by decide) (fun q3 => ?_) (fun q3 => ?_)
  · replace h := z_f h q3
    refine zg_aload_n dd_0_24 rfl (j := 0) rfl ?_
    refine zg_getI (x := (I 2 0)) dd_0_25 zl_T_88 zCs_2 rfl rfl ?_
    refine zg_bipush dd_0_28 kB_8 ?_
    refine zg_icmp_lt (tgt := 39) dd_0_30 (by decide) (fun q4 => ?_) (fun q4 => ?_)
    · replace h := z_t h q4
      refine zg_aload_n dd_0_39 rfl (j := 0) rfl ?_
      refine zg_getR dd_0_40 zl_T_93 zCs_2 rfl zCr_2_1 ?_
      refine zg_aload_n dd_0_43 rfl (j := 0) rfl ?_
      refine zg_getI (x := (I 2 0)) dd_0_44 zl_T_88 zCs_2 rfl rfl ?_
      refine zg_iload_n dd_0_47 rfl (j := 2) rfl ?_
      obtain ⟨g5, h⟩ := z_gd h
      refine zg_iast dd_0_48 zCs_3 g5 ?_
      refine zg_aload_n dd_0_49 rfl (j := 0) rfl ?_
      refine zg_dup dd_0_50 rfl ?_
      refine zg_getI (x := (I 2 0)) dd_0_51 zl_T_88 zCs_2 rfl rfl ?_
      refine zg_dup_x1 dd_0_54 rfl rfl ?_
      refine zg_iconst dd_0_55 kI_1 ?_
      refine zg_iadd dd_0_56 ?_
      refine zg_putI dd_0_57 zp_T_88 zCs_2 rfl (zSt_int _) ?_
      obtain rfl := Option.some.inj h
      exact zg_iret dd_0_60 rfl
    · replace h := z_f h q4
      refine zg_aload_n dd_0_33 rfl (j := 1) rfl ?_
      refine zg_iconst dd_0_34 kI_4 ?_
      obtain ⟨r6, e7, h⟩ := z_bd h
      refine zg_invV_i (av := [.inl (4 : Int32)]) (st := []) (n := 1) dd_0_35 ca_2 zw_430 zw_432 zv_0 zCs_0 zcl_11 rfl (mt_fc_T_refuse e7) rfl ⟨by decide +kernel, by decide⟩ (Nat.le_of_ble_eq_true rfl) ?_
      obtain rfl := Option.some.inj h
      exact zg_iret dd_0_38 rfl
  · replace h := z_t h q3
    refine zg_aload_n dd_0_18 rfl (j := 1) rfl ?_
    refine zg_iconst dd_0_19 kI_1 ?_
    obtain ⟨r8, e9, h⟩ := z_bd h
    refine zg_invV_i (av := [.inl (1 : Int32)]) (st := []) (n := 1) dd_0_20 ca_2 zw_430 zw_432 zv_0 zCs_0 zcl_11 rfl (mt_fc_T_refuse e9) rfl ⟨by decide +kernel, by decide⟩ (Nat.le_of_ble_eq_true rfl) ?_
    obtain rfl := Option.some.inj h
    exact zg_iret dd_0_23 rfl
/-! TurnedLand$Ground.hasSquare[2, None] -/
def fc_Ground_hasSquare (I : zI) (a1 : Int32) : Option Int32 :=
  (fc_T_within I a1 (0 : Int32) ((I 2 0) - (1 : Int32))).bind fun r1 =>
  z_guard (zbb r1) <|
  some r1
set_option maxRecDepth 20000 in
theorem mt_fc_Ground_hasSquare {I : zI} {a1 : Int32} {res : Int32} (h : fc_Ground_hasSquare I a1 = some res) : zM 2 ym_4 [.inr (.inr (some 2)), .inl a1] (zCs, zCr, I) (some (.inl res)) (zCs, zCr, I) 0 0 := by
  refine zM_of (by decide) (Nat.le_of_ble_eq_true rfl) (lv := [(0, .inr (.inr (some 2))), (1, .inl a1)]) rfl ?_
  rw [fc_Ground_hasSquare] at h
  refine zg_iload_n dd_4_0 rfl (j := 1) rfl ?_
  refine zg_iconst dd_4_1 kI_0 ?_
  refine zg_aload_n dd_4_2 rfl (j := 0) rfl ?_
  refine zg_getI (x := (I 2 0)) dd_4_3 zl_Ground_9 zCs_2 rfl rfl ?_
  refine zg_iconst dd_4_6 kI_1 ?_
  refine zg_isub dd_4_7 ?_
  obtain ⟨r1, e2, h⟩ := z_bd h
  refine zg_invSN_i (av := [.inl a1, .inl (0 : Int32), .inl ((I 2 0) - (1 : Int32))]) (st := []) (n := 3) dd_4_8 ca_1 (List.mem_of_getElem? (i := 10) rfl) zw_428 (mt_fc_T_within e2) rfl ⟨by decide +kernel, by decide⟩ (Nat.le_of_ble_eq_true rfl) ?_
  obtain ⟨g3, h⟩ := z_gd h
  obtain rfl := Option.some.inj h
  exact zg_zret dd_4_11 rfl (zSt_bb g3).1
/-! TurnedLand.cost(0, None, None) -/
def fc_T_cost (I : zI) (a1 : Int32) (a2 : Int32) : Option (Int32 × zI) :=
  (fc_Ground_hasSquare I a1).bind fun r1 =>
  if r1 = 0 then
    (fc_T_refuse I (1 : Int32)).bind fun r4 =>
    some (r4.1, r4.2)
  else
    (fc_T_within I a2 (1 : Int32) (99 : Int32)).bind fun r6 =>
    if r6 = 0 then
      (fc_T_refuse I (1 : Int32)).bind fun r10 =>
      some (r10.1, r10.2)
    else
      z_guard (zb a1 8) <|
      some ((I 3 a1.toNatClampNeg), (zup I 3 a1.toNatClampNeg a2))
set_option maxRecDepth 20000 in
theorem mt_fc_T_cost {I : zI} {a1 : Int32} {a2 : Int32} {res : (Int32 × zI)} (h : fc_T_cost I a1 a2 = some res) : zM 3 ym_3 [.inr (.inr (some 0)), .inl a1, .inl a2] (zCs, zCr, I) (some (.inl res.1)) (zCs, zCr, res.2) 0 0 := by
  refine zM_of (by decide) (Nat.le_of_ble_eq_true rfl) (lv := [(0, .inr (.inr (some 0))), (1, .inl a1), (2, .inl a2)]) rfl ?_
  rw [fc_T_cost] at h
  refine zg_aload_n dd_3_0 rfl (j := 0) rfl ?_
  refine zg_getR dd_3_1 zl_T_12 zCs_0 rfl zCr_0_0 ?_
  refine zg_getR dd_3_4 zl_T_76 zCs_1 rfl zCr_1_0 ?_
  refine zg_astore_n dd_3_7 rfl (Nat.le_of_ble_eq_true rfl) (lv' := [(3, .inr (.inr (some 2))), (0, .inr (.inr (some 0))), (1, .inl a1), (2, .inl a2)]) rfl ?_
  refine zg_aload_n dd_3_8 rfl (j := 0) rfl ?_
  refine zg_iload_n dd_3_9 rfl (j := 2) rfl ?_
  obtain ⟨r1, e2, h⟩ := z_bd h
  refine zg_invV_i (av := [.inl a1]) (st := []) (n := 1) dd_3_10 ca_4 zw_439 zw_440 zw_441 zCs_2 zcl_2 rfl (mt_fc_Ground_hasSquare e2) rfl ⟨by decide +kernel, by decide⟩ (Nat.le_of_ble_eq_true rfl) ?_
  refine zg_if_eq (tgt := 26) dd_3_13 (by decide) (fun q3 => ?_) (fun q3 => ?_)
  · replace h := z_t h q3
    refine zg_aload_n dd_3_26 rfl (j := 1) rfl ?_
    refine zg_iconst dd_3_27 kI_1 ?_
    obtain ⟨r4, e5, h⟩ := z_bd h
    refine zg_invV_i (av := [.inl (1 : Int32)]) (st := []) (n := 1) dd_3_28 ca_2 zw_430 zw_432 zv_0 zCs_0 zcl_11 rfl (mt_fc_T_refuse e5) rfl ⟨by decide +kernel, by decide⟩ (Nat.le_of_ble_eq_true rfl) ?_
    obtain rfl := Option.some.inj h
    exact zg_iret dd_3_31 rfl
  · replace h := z_f h q3
    refine zg_iload_n dd_3_16 rfl (j := 3) rfl ?_
    refine zg_iconst dd_3_17 kI_1 ?_
    refine zg_bipush dd_3_18 kB_99 ?_
    obtain ⟨r6, e7, h⟩ := z_bd h
    refine zg_invS_i (av := [.inl a2, .inl (1 : Int32), .inl (99 : Int32)]) (st := []) (n := 3) dd_3_20 ca_1 zw_427 zw_428 (mt_fc_T_within e7) rfl ⟨by decide +kernel, by decide⟩ (Nat.le_of_ble_eq_true rfl) ?_
    refine zg_if_ne (tgt := 32) dd_3_23 (by decide) (fun q8 => ?_) (fun q8 => ?_)
    · replace h := z_f h q8
      refine zg_aload_n dd_3_32 rfl (j := 0) rfl ?_
      refine zg_getR dd_3_33 zl_T_93 zCs_2 rfl zCr_2_1 ?_
      refine zg_iload_n dd_3_36 rfl (j := 2) rfl ?_
      obtain ⟨g9, h⟩ := z_gd h
      refine zg_iald (w := (I 3 a1.toNatClampNeg)) dd_3_37 zCs_3 g9 rfl ?_
      refine zg_istore dd_3_38 (Nat.le_of_ble_eq_true rfl) (lv' := [(4, .inl (I 3 a1.toNatClampNeg)), (3, .inr (.inr (some 2))), (0, .inr (.inr (some 0))), (1, .inl a1), (2, .inl a2)]) rfl ?_
      refine zg_aload_n dd_3_40 rfl (j := 1) rfl ?_
      refine zg_getR dd_3_41 zl_T_93 zCs_2 rfl zCr_2_1 ?_
      refine zg_iload_n dd_3_44 rfl (j := 3) rfl ?_
      refine zg_iload_n dd_3_45 rfl (j := 4) rfl ?_
      refine zg_iast dd_3_46 zCs_3 g9 ?_
      refine zg_iload dd_3_47 (j := 0) rfl ?_
      obtain rfl := Option.some.inj h
      exact zg_iret dd_3_49 rfl
    · replace h := z_t h q8
      refine zg_aload_n dd_3_26 rfl (j := 1) rfl ?_
      refine zg_iconst dd_3_27 kI_1 ?_
      obtain ⟨r10, e11, h⟩ := z_bd h
      refine zg_invV_i (av := [.inl (1 : Int32)]) (st := []) (n := 1) dd_3_28 ca_2 zw_430 zw_432 zv_0 zCs_0 zcl_11 rfl (mt_fc_T_refuse e11) rfl ⟨by decide +kernel, by decide⟩ (Nat.le_of_ble_eq_true rfl) ?_
      obtain rfl := Option.some.inj h
      exact zg_iret dd_3_31 rfl
/-! TurnedLand$Ground.hasEdge[2, None] -/
def fc_Ground_hasEdge (I : zI) (a1 : Int32) : Option Int32 :=
  if a1 < 0 then
    some (0 : Int32)
  else
    if ((4 : Int32) * (I 2 0)) ≤ a1 then
      some (0 : Int32)
    else
      some (1 : Int32)
set_option maxRecDepth 20000 in
theorem mt_fc_Ground_hasEdge {I : zI} {a1 : Int32} {res : Int32} (h : fc_Ground_hasEdge I a1 = some res) : zM 1 ym_7 [.inr (.inr (some 2)), .inl a1] (zCs, zCr, I) (some (.inl res)) (zCs, zCr, I) 0 0 := by
  refine zM_of (by decide) (Nat.le_of_ble_eq_true rfl) (lv := [(0, .inr (.inr (some 2))), (1, .inl a1)]) rfl ?_
  rw [fc_Ground_hasEdge] at h
  refine zg_iload_n dd_7_0 rfl (j := 1) rfl ?_
  refine zg_if_lt (tgt := 18) dd_7_1 (by decide) (fun q1 => ?_) (fun q1 => ?_)
  · replace h := z_t h q1
    refine zg_iconst dd_7_18 kI_0 ?_
    obtain rfl := Option.some.inj h
    exact zg_zret dd_7_19 rfl zSt_b0.1
  · replace h := z_f h q1
    refine zg_iload_n dd_7_4 rfl (j := 1) rfl ?_
    refine zg_iconst dd_7_5 kI_4 ?_
    refine zg_aload_n dd_7_6 rfl (j := 0) rfl ?_
    refine zg_getI (x := (I 2 0)) dd_7_7 zl_Ground_9 zCs_2 rfl rfl ?_
    refine zg_imul dd_7_10 ?_
    refine zg_icmp_ge (tgt := 18) dd_7_11 (by decide) (fun q2 => ?_) (fun q2 => ?_)
    · replace h := z_t h q2
      refine zg_iconst dd_7_18 kI_0 ?_
      obtain rfl := Option.some.inj h
      exact zg_zret dd_7_19 rfl zSt_b0.1
    · replace h := z_f h q2
      refine zg_iconst dd_7_14 kI_1 ?_
      refine zg_goto (tgt := 19) dd_7_15 (by decide) ?_
      obtain rfl := Option.some.inj h
      exact zg_zret dd_7_19 rfl zSt_b1.1
/-! TurnedLand$Ground.joinError[2, None, None, None] -/
def fc_Ground_joinError_J26 (I : zI) (v1 : Int32) (v2 : Int32) (v3 : Int32) (x0 : Int32) : Option Int32 :=
  if x0 = 0 then
    some (1 : Int32)
  else
    (fc_T_within I v3 (0 : Int32) (1 : Int32)).bind fun r5 =>
    if r5 = 0 then
      some (1 : Int32)
    else
      z_guard (zb v1 32) <|
      if (I 6 v1.toNatClampNeg) = (-1 : Int32) then
        z_guard (zb v2 32) <|
        if (I 6 v2.toNatClampNeg) = (-1 : Int32) then
          if (I 2 2) < (16 : Int32) then
            some (0 : Int32)
          else
            some (4 : Int32)
        else
          some (3 : Int32)
      else
        some (3 : Int32)
def fc_Ground_joinError_J25 (I : zI) (v1 : Int32) (v2 : Int32) (v3 : Int32) : Option Int32 :=
  fc_Ground_joinError_J26 I v1 v2 v3 (0 : Int32)
def fc_Ground_joinError (I : zI) (a1 : Int32) (a2 : Int32) (a3 : Int32) : Option Int32 :=
  (fc_Ground_hasEdge I a1).bind fun r1 =>
  if r1 = 0 then
    fc_Ground_joinError_J25 I a1 a2 a3
  else
    (fc_Ground_hasEdge I a2).bind fun r13 =>
    if r13 = 0 then
      fc_Ground_joinError_J25 I a1 a2 a3
    else
      if a1 = a2 then
        fc_Ground_joinError_J25 I a1 a2 a3
      else
        fc_Ground_joinError_J26 I a1 a2 a3 (1 : Int32)
set_option maxRecDepth 20000 in
theorem jt_fc_Ground_joinError_J26 {res : Int32} {I : zI} {v1 : Int32} {v2 : Int32} {v3 : Int32} {x0 : Int32} (h : fc_Ground_joinError_J26 I v1 v2 v3 x0 = some res) : zG 2 ym_6 0 0 (some (.inl res)) (zCs, zCr, I) zCs.length 26 [(0, .inr (.inr (some 2))), (1, .inl v1), (2, .inl v2), (3, .inl v3)] [.inl x0] (zCs, zCr, I) 0 0 := by
  rw [fc_Ground_joinError_J26] at h
  refine zg_istore dd_6_26 (Nat.le_of_ble_eq_true rfl) (lv' := [(4, .inl x0), (0, .inr (.inr (some 2))), (1, .inl v1), (2, .inl v2), (3, .inl v3)]) rfl ?_
  refine zg_iload dd_6_28 (j := 0) rfl ?_
  refine zg_if_eq (tgt := 42) dd_6_30 (by decide) (fun q4 => ?_) (fun q4 => ?_)
  · replace h := z_t h q4
    refine zg_iconst dd_6_42 kI_1 ?_
    obtain rfl := Option.some.inj h
    exact zg_iret dd_6_43 rfl
  · replace h := z_f h q4
    refine zg_iload_n dd_6_33 rfl (j := 4) rfl ?_
    refine zg_iconst dd_6_34 kI_0 ?_
    refine zg_iconst dd_6_35 kI_1 ?_
    obtain ⟨r5, e6, h⟩ := z_bd h
    refine zg_invSN_i (av := [.inl v3, .inl (0 : Int32), .inl (1 : Int32)]) (st := []) (n := 3) dd_6_36 ca_1 (List.mem_of_getElem? (i := 10) rfl) zw_428 (mt_fc_T_within e6) rfl ⟨by decide +kernel, by decide⟩ (Nat.le_of_ble_eq_true rfl) ?_
    refine zg_if_ne (tgt := 44) dd_6_39 (by decide) (fun q7 => ?_) (fun q7 => ?_)
    · replace h := z_f h q7
      refine zg_aload_n dd_6_44 rfl (j := 1) rfl ?_
      refine zg_getR dd_6_45 zl_Ground_28 zCs_2 rfl zCr_2_5 ?_
      refine zg_iload_n dd_6_48 rfl (j := 2) rfl ?_
      obtain ⟨g8, h⟩ := z_gd h
      refine zg_iald (w := (I 6 v1.toNatClampNeg)) dd_6_49 zCs_6 g8 rfl ?_
      refine zg_iconst dd_6_50 kI_m1 ?_
      refine zg_icmp_ne (tgt := 64) dd_6_51 (by decide) (fun q9 => ?_) (fun q9 => ?_)
      · replace h := z_f h q9
        refine zg_iconst dd_6_64 kI_3 ?_
        obtain rfl := Option.some.inj h
        exact zg_iret dd_6_65 rfl
      · replace h := z_t h q9
        refine zg_aload_n dd_6_54 rfl (j := 1) rfl ?_
        refine zg_getR dd_6_55 zl_Ground_28 zCs_2 rfl zCr_2_5 ?_
        refine zg_iload_n dd_6_58 rfl (j := 3) rfl ?_
        obtain ⟨g10, h⟩ := z_gd h
        refine zg_iald (w := (I 6 v2.toNatClampNeg)) dd_6_59 zCs_6 g10 rfl ?_
        refine zg_iconst dd_6_60 kI_m1 ?_
        refine zg_icmp_eq (tgt := 66) dd_6_61 (by decide) (fun q11 => ?_) (fun q11 => ?_)
        · replace h := z_t h q11
          refine zg_aload_n dd_6_66 rfl (j := 1) rfl ?_
          refine zg_getI (x := (I 2 2)) dd_6_67 zl_Ground_19 zCs_2 rfl rfl ?_
          refine zg_bipush dd_6_70 kB_16 ?_
          refine zg_icmp_lt (tgt := 79) dd_6_72 (by decide) (fun q12 => ?_) (fun q12 => ?_)
          · replace h := z_t h q12
            refine zg_iconst dd_6_79 kI_0 ?_
            obtain rfl := Option.some.inj h
            exact zg_iret dd_6_80 rfl
          · replace h := z_f h q12
            refine zg_iconst dd_6_75 kI_4 ?_
            refine zg_goto (tgt := 80) dd_6_76 (by decide) ?_
            obtain rfl := Option.some.inj h
            exact zg_iret dd_6_80 rfl
        · replace h := z_f h q11
          refine zg_iconst dd_6_64 kI_3 ?_
          obtain rfl := Option.some.inj h
          exact zg_iret dd_6_65 rfl
    · replace h := z_t h q7
      refine zg_iconst dd_6_42 kI_1 ?_
      obtain rfl := Option.some.inj h
      exact zg_iret dd_6_43 rfl
set_option maxRecDepth 20000 in
theorem jt_fc_Ground_joinError_J25 {res : Int32} {I : zI} {v1 : Int32} {v2 : Int32} {v3 : Int32} (h : fc_Ground_joinError_J25 I v1 v2 v3 = some res) : zG 2 ym_6 0 0 (some (.inl res)) (zCs, zCr, I) zCs.length 25 [(0, .inr (.inr (some 2))), (1, .inl v1), (2, .inl v2), (3, .inl v3)] [] (zCs, zCr, I) 0 0 := by
  rw [fc_Ground_joinError_J25] at h
  refine zg_iconst dd_6_25 kI_0 ?_
  refine zg_sub [0, 1, 2, 3] rfl ?_
  exact jt_fc_Ground_joinError_J26 h
set_option maxRecDepth 20000 in
theorem mt_fc_Ground_joinError {I : zI} {a1 : Int32} {a2 : Int32} {a3 : Int32} {res : Int32} (h : fc_Ground_joinError I a1 a2 a3 = some res) : zM 2 ym_6 [.inr (.inr (some 2)), .inl a1, .inl a2, .inl a3] (zCs, zCr, I) (some (.inl res)) (zCs, zCr, I) 0 0 := by
  refine zM_of (by decide) (Nat.le_of_ble_eq_true rfl) (lv := [(0, .inr (.inr (some 2))), (1, .inl a1), (2, .inl a2), (3, .inl a3)]) rfl ?_
  rw [fc_Ground_joinError] at h
  refine zg_aload_n dd_6_0 rfl (j := 0) rfl ?_
  refine zg_iload_n dd_6_1 rfl (j := 1) rfl ?_
  obtain ⟨r1, e2, h⟩ := z_bd h
  refine zg_invV_i (av := [.inl a1]) (st := []) (n := 1) dd_6_2 ca_7 zw_452 zw_453 zw_454 zCs_2 zcl_2 rfl (mt_fc_Ground_hasEdge e2) rfl ⟨by decide +kernel, by decide⟩ (Nat.le_of_ble_eq_true rfl) ?_
  refine zg_if_eq (tgt := 25) dd_6_5 (by decide) (fun q3 => ?_) (fun q3 => ?_)
  · replace h := z_t h q3
    refine zg_sub [0, 1, 2, 3] rfl ?_
    exact jt_fc_Ground_joinError_J25 h
  · replace h := z_f h q3
    refine zg_aload_n dd_6_8 rfl (j := 0) rfl ?_
    refine zg_iload_n dd_6_9 rfl (j := 2) rfl ?_
    obtain ⟨r13, e14, h⟩ := z_bd h
    refine zg_invV_i (av := [.inl a2]) (st := []) (n := 1) dd_6_10 ca_7 zw_452 zw_453 zw_454 zCs_2 zcl_2 rfl (mt_fc_Ground_hasEdge e14) rfl ⟨by decide +kernel, by decide⟩ (Nat.le_of_ble_eq_true rfl) ?_
    refine zg_if_eq (tgt := 25) dd_6_13 (by decide) (fun q15 => ?_) (fun q15 => ?_)
    · replace h := z_t h q15
      refine zg_sub [0, 1, 2, 3] rfl ?_
      exact jt_fc_Ground_joinError_J25 h
    · replace h := z_f h q15
      refine zg_iload_n dd_6_16 rfl (j := 1) rfl ?_
      refine zg_iload_n dd_6_17 rfl (j := 2) rfl ?_
      refine zg_icmp_eq (tgt := 25) dd_6_18 (by decide) (fun q16 => ?_) (fun q16 => ?_)
      · replace h := z_t h q16
        refine zg_sub [0, 1, 2, 3] rfl ?_
        exact jt_fc_Ground_joinError_J25 h
      · replace h := z_f h q16
        refine zg_iconst dd_6_21 kI_1 ?_
        refine zg_goto (tgt := 26) dd_6_22 (by decide) ?_
        refine zg_sub [0, 1, 2, 3] rfl ?_
        exact jt_fc_Ground_joinError_J26 h
/-! TurnedLand$Ground.addJoin[2, None, None, None] -/
def fc_Ground_addJoin (I : zI) (a1 : Int32) (a2 : Int32) (a3 : Int32) : Option (Int32 × zI) :=
  z_guard (zb ((2 : Int32) * (I 2 2)) 32) <|
  z_guard (zb (((2 : Int32) * (I 2 2)) + (1 : Int32)) 32) <|
  z_guard (zb (I 2 2) 16) <|
  z_guard (zb a1 32) <|
  z_guard (zb a2 32) <|
  some ((I 2 2), (zup (zup (zup (zup (zup (zup I 4 ((2 : Int32) * (I 2 2)).toNatClampNeg a1) 4 (((2 : Int32) * (I 2 2)) + (1 : Int32)).toNatClampNeg a2) 5 (I 2 2).toNatClampNeg a3) 6 a1.toNatClampNeg (I 2 2)) 6 a2.toNatClampNeg (I 2 2)) 2 2 ((I 2 2) + (1 : Int32))))
set_option maxRecDepth 20000 in
theorem mt_fc_Ground_addJoin {I : zI} {a1 : Int32} {a2 : Int32} {a3 : Int32} {res : (Int32 × zI)} (h : fc_Ground_addJoin I a1 a2 a3 = some res) : zM 1 ym_8 [.inr (.inr (some 2)), .inl a1, .inl a2, .inl a3] (zCs, zCr, I) (some (.inl res.1)) (zCs, zCr, res.2) 0 0 := by
  refine zM_of (by decide) (Nat.le_of_ble_eq_true rfl) (lv := [(0, .inr (.inr (some 2))), (1, .inl a1), (2, .inl a2), (3, .inl a3)]) rfl ?_
  rw [fc_Ground_addJoin] at h
  refine zg_aload_n dd_8_0 rfl (j := 0) rfl ?_
  refine zg_getR dd_8_1 zl_Ground_22 zCs_2 rfl zCr_2_3 ?_
  refine zg_iconst dd_8_4 kI_2 ?_
  refine zg_aload_n dd_8_5 rfl (j := 0) rfl ?_
  refine zg_getI (x := (I 2 2)) dd_8_6 zl_Ground_19 zCs_2 rfl rfl ?_
  refine zg_imul dd_8_9 ?_
  refine zg_iload_n dd_8_10 rfl (j := 1) rfl ?_
  obtain ⟨g1, h⟩ := z_gd h
  refine zg_iast dd_8_11 zCs_4 g1 ?_
  refine zg_aload_n dd_8_12 rfl (j := 0) rfl ?_
  refine zg_getR dd_8_13 zl_Ground_22 zCs_2 rfl zCr_2_3 ?_
  refine zg_iconst dd_8_16 kI_2 ?_
  refine zg_aload_n dd_8_17 rfl (j := 0) rfl ?_
  refine zg_getI (x := (I 2 2)) dd_8_18 zl_Ground_19 zCs_2 rfl rfl ?_
  refine zg_imul dd_8_21 ?_
  refine zg_iconst dd_8_22 kI_1 ?_
  refine zg_iadd dd_8_23 ?_
  refine zg_iload_n dd_8_24 rfl (j := 2) rfl ?_
  obtain ⟨g2, h⟩ := z_gd h
  refine zg_iast dd_8_25 zCs_4 g2 ?_
  refine zg_aload_n dd_8_26 rfl (j := 0) rfl ?_
  refine zg_getR dd_8_27 zl_Ground_25 zCs_2 rfl zCr_2_4 ?_
  refine zg_aload_n dd_8_30 rfl (j := 0) rfl ?_
  refine zg_getI (x := (I 2 2)) dd_8_31 zl_Ground_19 zCs_2 rfl rfl ?_
  refine zg_iload_n dd_8_34 rfl (j := 3) rfl ?_
  obtain ⟨g3, h⟩ := z_gd h
  refine zg_iast dd_8_35 zCs_5 g3 ?_
  refine zg_aload_n dd_8_36 rfl (j := 0) rfl ?_
  refine zg_getR dd_8_37 zl_Ground_28 zCs_2 rfl zCr_2_5 ?_
  refine zg_iload_n dd_8_40 rfl (j := 1) rfl ?_
  refine zg_aload_n dd_8_41 rfl (j := 0) rfl ?_
  refine zg_getI (x := (I 2 2)) dd_8_42 zl_Ground_19 zCs_2 rfl rfl ?_
  obtain ⟨g4, h⟩ := z_gd h
  refine zg_iast dd_8_45 zCs_6 g4 ?_
  refine zg_aload_n dd_8_46 rfl (j := 0) rfl ?_
  refine zg_getR dd_8_47 zl_Ground_28 zCs_2 rfl zCr_2_5 ?_
  refine zg_iload_n dd_8_50 rfl (j := 2) rfl ?_
  refine zg_aload_n dd_8_51 rfl (j := 0) rfl ?_
  refine zg_getI (x := (I 2 2)) dd_8_52 zl_Ground_19 zCs_2 rfl rfl ?_
  obtain ⟨g5, h⟩ := z_gd h
  refine zg_iast dd_8_55 zCs_6 g5 ?_
  refine zg_aload_n dd_8_56 rfl (j := 0) rfl ?_
  refine zg_dup dd_8_57 rfl ?_
  refine zg_getI (x := (I 2 2)) dd_8_58 zl_Ground_19 zCs_2 rfl rfl ?_
  refine zg_dup_x1 dd_8_61 rfl rfl ?_
  refine zg_iconst dd_8_62 kI_1 ?_
  refine zg_iadd dd_8_63 ?_
  refine zg_putI dd_8_64 zp_Ground_19 zCs_2 rfl (zSt_int _) ?_
  obtain rfl := Option.some.inj h
  exact zg_iret dd_8_67 rfl
/-! TurnedLand.join(0, None, None, None) -/
def fc_T_join (I : zI) (a1 : Int32) (a2 : Int32) (a3 : Int32) : Option (Int32 × zI) :=
  (fc_Ground_joinError I a1 a2 a3).bind fun r1 =>
  if r1 = 0 then
    (fc_Ground_addJoin I a1 a2 a3).bind fun r4 =>
    some (r4.1, r4.2)
  else
    (fc_T_refuse I r1).bind fun r6 =>
    some (r6.1, r6.2)
set_option maxRecDepth 20000 in
theorem mt_fc_T_join {I : zI} {a1 : Int32} {a2 : Int32} {a3 : Int32} {res : (Int32 × zI)} (h : fc_T_join I a1 a2 a3 = some res) : zM 3 ym_5 [.inr (.inr (some 0)), .inl a1, .inl a2, .inl a3] (zCs, zCr, I) (some (.inl res.1)) (zCs, zCr, res.2) 0 0 := by
  refine zM_of (by decide) (Nat.le_of_ble_eq_true rfl) (lv := [(0, .inr (.inr (some 0))), (1, .inl a1), (2, .inl a2), (3, .inl a3)]) rfl ?_
  rw [fc_T_join] at h
  refine zg_aload_n dd_5_0 rfl (j := 0) rfl ?_
  refine zg_getR dd_5_1 zl_T_12 zCs_0 rfl zCr_0_0 ?_
  refine zg_getR dd_5_4 zl_T_76 zCs_1 rfl zCr_1_0 ?_
  refine zg_iload_n dd_5_7 rfl (j := 1) rfl ?_
  refine zg_iload_n dd_5_8 rfl (j := 2) rfl ?_
  refine zg_iload_n dd_5_9 rfl (j := 3) rfl ?_
  obtain ⟨r1, e2, h⟩ := z_bd h
  refine zg_invV_i (av := [.inl a1, .inl a2, .inl a3]) (st := []) (n := 3) dd_5_10 ca_6 zw_448 zw_449 zw_450 zCs_2 zcl_2 rfl (mt_fc_Ground_joinError e2) rfl ⟨by decide +kernel, by decide⟩ (Nat.le_of_ble_eq_true rfl) ?_
  refine zg_istore dd_5_13 (Nat.le_of_ble_eq_true rfl) (lv' := [(4, .inl r1), (0, .inr (.inr (some 0))), (1, .inl a1), (2, .inl a2), (3, .inl a3)]) rfl ?_
  refine zg_iload dd_5_15 (j := 0) rfl ?_
  refine zg_if_eq (tgt := 27) dd_5_17 (by decide) (fun q3 => ?_) (fun q3 => ?_)
  · replace h := z_t h q3
    refine zg_aload_n dd_5_27 rfl (j := 1) rfl ?_
    refine zg_getR dd_5_28 zl_T_12 zCs_0 rfl zCr_0_0 ?_
    refine zg_getR dd_5_31 zl_T_76 zCs_1 rfl zCr_1_0 ?_
    refine zg_iload_n dd_5_34 rfl (j := 2) rfl ?_
    refine zg_iload_n dd_5_35 rfl (j := 3) rfl ?_
    refine zg_iload_n dd_5_36 rfl (j := 4) rfl ?_
    obtain ⟨r4, e5, h⟩ := z_bd h
    refine zg_invV_i (av := [.inl a1, .inl a2, .inl a3]) (st := []) (n := 3) dd_5_37 ca_8 zw_456 zw_457 zw_458 zCs_2 zcl_2 rfl (mt_fc_Ground_addJoin e5) rfl ⟨by decide +kernel, by decide⟩ (Nat.le_of_ble_eq_true rfl) ?_
    obtain rfl := Option.some.inj h
    exact zg_iret dd_5_40 rfl
  · replace h := z_f h q3
    refine zg_aload_n dd_5_20 rfl (j := 1) rfl ?_
    refine zg_iload dd_5_21 (j := 0) rfl ?_
    obtain ⟨r6, e7, h⟩ := z_bd h
    refine zg_invV_i (av := [.inl r1]) (st := []) (n := 1) dd_5_23 ca_2 zw_430 zw_432 zv_0 zCs_0 zcl_11 rfl (mt_fc_T_refuse e7) rfl ⟨by decide +kernel, by decide⟩ (Nat.le_of_ble_eq_true rfl) ?_
    obtain rfl := Option.some.inj h
    exact zg_iret dd_5_26 rfl
/-! TurnedLand$Ground.hasJoin[2, None] -/
def fc_Ground_hasJoin (I : zI) (a1 : Int32) : Option Int32 :=
  (fc_T_within I a1 (0 : Int32) ((I 2 2) - (1 : Int32))).bind fun r1 =>
  z_guard (zbb r1) <|
  some r1
set_option maxRecDepth 20000 in
theorem mt_fc_Ground_hasJoin {I : zI} {a1 : Int32} {res : Int32} (h : fc_Ground_hasJoin I a1 = some res) : zM 2 ym_10 [.inr (.inr (some 2)), .inl a1] (zCs, zCr, I) (some (.inl res)) (zCs, zCr, I) 0 0 := by
  refine zM_of (by decide) (Nat.le_of_ble_eq_true rfl) (lv := [(0, .inr (.inr (some 2))), (1, .inl a1)]) rfl ?_
  rw [fc_Ground_hasJoin] at h
  refine zg_iload_n dd_10_0 rfl (j := 1) rfl ?_
  refine zg_iconst dd_10_1 kI_0 ?_
  refine zg_aload_n dd_10_2 rfl (j := 0) rfl ?_
  refine zg_getI (x := (I 2 2)) dd_10_3 zl_Ground_19 zCs_2 rfl rfl ?_
  refine zg_iconst dd_10_6 kI_1 ?_
  refine zg_isub dd_10_7 ?_
  obtain ⟨r1, e2, h⟩ := z_bd h
  refine zg_invSN_i (av := [.inl a1, .inl (0 : Int32), .inl ((I 2 2) - (1 : Int32))]) (st := []) (n := 3) dd_10_8 ca_1 (List.mem_of_getElem? (i := 10) rfl) zw_428 (mt_fc_T_within e2) rfl ⟨by decide +kernel, by decide⟩ (Nat.le_of_ble_eq_true rfl) ?_
  obtain ⟨g3, h⟩ := z_gd h
  obtain rfl := Option.some.inj h
  exact zg_zret dd_10_11 rfl (zSt_bb g3).1
/-! TurnedLand.joinIs(0, None, None) -/
def fc_T_joinIs (I : zI) (a1 : Int32) (a2 : Int32) : Option (Int32 × zI) :=
  (fc_Ground_hasJoin I a1).bind fun r1 =>
  if r1 = 0 then
    (fc_T_refuse I (1 : Int32)).bind fun r4 =>
    some (r4.1, r4.2)
  else
    (fc_T_within I a2 (0 : Int32) (2 : Int32)).bind fun r6 =>
    if r6 = 0 then
      (fc_T_refuse I (1 : Int32)).bind fun r12 =>
      some (r12.1, r12.2)
    else
      if a2 = (2 : Int32) then
        z_guard (zb a1 16) <|
        some ((I 5 a1.toNatClampNeg), I)
      else
        z_guard (zb (((2 : Int32) * a1) + a2) 32) <|
        some ((I 4 (((2 : Int32) * a1) + a2).toNatClampNeg), I)
set_option maxRecDepth 20000 in
theorem mt_fc_T_joinIs {I : zI} {a1 : Int32} {a2 : Int32} {res : (Int32 × zI)} (h : fc_T_joinIs I a1 a2 = some res) : zM 3 ym_9 [.inr (.inr (some 0)), .inl a1, .inl a2] (zCs, zCr, I) (some (.inl res.1)) (zCs, zCr, res.2) 0 0 := by
  refine zM_of (by decide) (Nat.le_of_ble_eq_true rfl) (lv := [(0, .inr (.inr (some 0))), (1, .inl a1), (2, .inl a2)]) rfl ?_
  rw [fc_T_joinIs] at h
  refine zg_aload_n dd_9_0 rfl (j := 0) rfl ?_
  refine zg_getR dd_9_1 zl_T_12 zCs_0 rfl zCr_0_0 ?_
  refine zg_getR dd_9_4 zl_T_76 zCs_1 rfl zCr_1_0 ?_
  refine zg_astore_n dd_9_7 rfl (Nat.le_of_ble_eq_true rfl) (lv' := [(3, .inr (.inr (some 2))), (0, .inr (.inr (some 0))), (1, .inl a1), (2, .inl a2)]) rfl ?_
  refine zg_aload_n dd_9_8 rfl (j := 0) rfl ?_
  refine zg_iload_n dd_9_9 rfl (j := 2) rfl ?_
  obtain ⟨r1, e2, h⟩ := z_bd h
  refine zg_invV_i (av := [.inl a1]) (st := []) (n := 1) dd_9_10 ca_10 zw_464 zw_465 zw_466 zCs_2 zcl_2 rfl (mt_fc_Ground_hasJoin e2) rfl ⟨by decide +kernel, by decide⟩ (Nat.le_of_ble_eq_true rfl) ?_
  refine zg_if_eq (tgt := 25) dd_9_13 (by decide) (fun q3 => ?_) (fun q3 => ?_)
  · replace h := z_t h q3
    refine zg_aload_n dd_9_25 rfl (j := 1) rfl ?_
    refine zg_iconst dd_9_26 kI_1 ?_
    obtain ⟨r4, e5, h⟩ := z_bd h
    refine zg_invV_i (av := [.inl (1 : Int32)]) (st := []) (n := 1) dd_9_27 ca_2 zw_430 zw_432 zv_0 zCs_0 zcl_11 rfl (mt_fc_T_refuse e5) rfl ⟨by decide +kernel, by decide⟩ (Nat.le_of_ble_eq_true rfl) ?_
    obtain rfl := Option.some.inj h
    exact zg_iret dd_9_30 rfl
  · replace h := z_f h q3
    refine zg_iload_n dd_9_16 rfl (j := 3) rfl ?_
    refine zg_iconst dd_9_17 kI_0 ?_
    refine zg_iconst dd_9_18 kI_2 ?_
    obtain ⟨r6, e7, h⟩ := z_bd h
    refine zg_invS_i (av := [.inl a2, .inl (0 : Int32), .inl (2 : Int32)]) (st := []) (n := 3) dd_9_19 ca_1 zw_427 zw_428 (mt_fc_T_within e7) rfl ⟨by decide +kernel, by decide⟩ (Nat.le_of_ble_eq_true rfl) ?_
    refine zg_if_ne (tgt := 31) dd_9_22 (by decide) (fun q8 => ?_) (fun q8 => ?_)
    · replace h := z_f h q8
      refine zg_iload_n dd_9_31 rfl (j := 3) rfl ?_
      refine zg_iconst dd_9_32 kI_2 ?_
      refine zg_icmp_ne (tgt := 45) dd_9_33 (by decide) (fun q9 => ?_) (fun q9 => ?_)
      · replace h := z_f h q9
        refine zg_aload_n dd_9_45 rfl (j := 0) rfl ?_
        refine zg_getR dd_9_46 zl_T_113 zCs_2 rfl zCr_2_3 ?_
        refine zg_iconst dd_9_49 kI_2 ?_
        refine zg_iload_n dd_9_50 rfl (j := 2) rfl ?_
        refine zg_imul dd_9_51 ?_
        refine zg_iload_n dd_9_52 rfl (j := 3) rfl ?_
        refine zg_iadd dd_9_53 ?_
        obtain ⟨g10, h⟩ := z_gd h
        refine zg_iald (w := (I 4 (((2 : Int32) * a1) + a2).toNatClampNeg)) dd_9_54 zCs_4 g10 rfl ?_
        obtain rfl := Option.some.inj h
        exact zg_iret dd_9_55 rfl
      · replace h := z_t h q9
        refine zg_aload_n dd_9_36 rfl (j := 0) rfl ?_
        refine zg_getR dd_9_37 zl_T_110 zCs_2 rfl zCr_2_4 ?_
        refine zg_iload_n dd_9_40 rfl (j := 2) rfl ?_
        obtain ⟨g11, h⟩ := z_gd h
        refine zg_iald (w := (I 5 a1.toNatClampNeg)) dd_9_41 zCs_5 g11 rfl ?_
        refine zg_goto (tgt := 55) dd_9_42 (by decide) ?_
        obtain rfl := Option.some.inj h
        exact zg_iret dd_9_55 rfl
    · replace h := z_t h q8
      refine zg_aload_n dd_9_25 rfl (j := 1) rfl ?_
      refine zg_iconst dd_9_26 kI_1 ?_
      obtain ⟨r12, e13, h⟩ := z_bd h
      refine zg_invV_i (av := [.inl (1 : Int32)]) (st := []) (n := 1) dd_9_27 ca_2 zw_430 zw_432 zv_0 zCs_0 zcl_11 rfl (mt_fc_T_refuse e13) rfl ⟨by decide +kernel, by decide⟩ (Nat.le_of_ble_eq_true rfl) ?_
      obtain rfl := Option.some.inj h
      exact zg_iret dd_9_30 rfl
/-! TurnedLand.turn(0, None, None) -/
def fc_T_turn (I : zI) (a1 : Int32) (a2 : Int32) : Option (Int32 × zI) :=
  (fc_Ground_hasJoin I a1).bind fun r1 =>
  if r1 = 0 then
    (fc_T_refuse I (1 : Int32)).bind fun r4 =>
    some (r4.1, r4.2)
  else
    (fc_T_within I a2 (0 : Int32) (1 : Int32)).bind fun r6 =>
    if r6 = 0 then
      (fc_T_refuse I (1 : Int32)).bind fun r10 =>
      some (r10.1, r10.2)
    else
      z_guard (zb a1 16) <|
      some ((I 5 a1.toNatClampNeg), (zup I 5 a1.toNatClampNeg a2))
set_option maxRecDepth 20000 in
theorem mt_fc_T_turn {I : zI} {a1 : Int32} {a2 : Int32} {res : (Int32 × zI)} (h : fc_T_turn I a1 a2 = some res) : zM 3 ym_11 [.inr (.inr (some 0)), .inl a1, .inl a2] (zCs, zCr, I) (some (.inl res.1)) (zCs, zCr, res.2) 0 0 := by
  refine zM_of (by decide) (Nat.le_of_ble_eq_true rfl) (lv := [(0, .inr (.inr (some 0))), (1, .inl a1), (2, .inl a2)]) rfl ?_
  rw [fc_T_turn] at h
  refine zg_aload_n dd_11_0 rfl (j := 0) rfl ?_
  refine zg_getR dd_11_1 zl_T_12 zCs_0 rfl zCr_0_0 ?_
  refine zg_getR dd_11_4 zl_T_76 zCs_1 rfl zCr_1_0 ?_
  refine zg_astore_n dd_11_7 rfl (Nat.le_of_ble_eq_true rfl) (lv' := [(3, .inr (.inr (some 2))), (0, .inr (.inr (some 0))), (1, .inl a1), (2, .inl a2)]) rfl ?_
  refine zg_aload_n dd_11_8 rfl (j := 0) rfl ?_
  refine zg_iload_n dd_11_9 rfl (j := 2) rfl ?_
  obtain ⟨r1, e2, h⟩ := z_bd h
  refine zg_invV_i (av := [.inl a1]) (st := []) (n := 1) dd_11_10 ca_10 zw_464 zw_465 zw_466 zCs_2 zcl_2 rfl (mt_fc_Ground_hasJoin e2) rfl ⟨by decide +kernel, by decide⟩ (Nat.le_of_ble_eq_true rfl) ?_
  refine zg_if_eq (tgt := 25) dd_11_13 (by decide) (fun q3 => ?_) (fun q3 => ?_)
  · replace h := z_t h q3
    refine zg_aload_n dd_11_25 rfl (j := 1) rfl ?_
    refine zg_iconst dd_11_26 kI_1 ?_
    obtain ⟨r4, e5, h⟩ := z_bd h
    refine zg_invV_i (av := [.inl (1 : Int32)]) (st := []) (n := 1) dd_11_27 ca_2 zw_430 zw_432 zv_0 zCs_0 zcl_11 rfl (mt_fc_T_refuse e5) rfl ⟨by decide +kernel, by decide⟩ (Nat.le_of_ble_eq_true rfl) ?_
    obtain rfl := Option.some.inj h
    exact zg_iret dd_11_30 rfl
  · replace h := z_f h q3
    refine zg_iload_n dd_11_16 rfl (j := 3) rfl ?_
    refine zg_iconst dd_11_17 kI_0 ?_
    refine zg_iconst dd_11_18 kI_1 ?_
    obtain ⟨r6, e7, h⟩ := z_bd h
    refine zg_invS_i (av := [.inl a2, .inl (0 : Int32), .inl (1 : Int32)]) (st := []) (n := 3) dd_11_19 ca_1 zw_427 zw_428 (mt_fc_T_within e7) rfl ⟨by decide +kernel, by decide⟩ (Nat.le_of_ble_eq_true rfl) ?_
    refine zg_if_ne (tgt := 31) dd_11_22 (by decide) (fun q8 => ?_) (fun q8 => ?_)
    · replace h := z_f h q8
      refine zg_aload_n dd_11_31 rfl (j := 0) rfl ?_
      refine zg_getR dd_11_32 zl_T_110 zCs_2 rfl zCr_2_4 ?_
      refine zg_iload_n dd_11_35 rfl (j := 2) rfl ?_
      obtain ⟨g9, h⟩ := z_gd h
      refine zg_iald (w := (I 5 a1.toNatClampNeg)) dd_11_36 zCs_5 g9 rfl ?_
      refine zg_istore dd_11_37 (Nat.le_of_ble_eq_true rfl) (lv' := [(4, .inl (I 5 a1.toNatClampNeg)), (3, .inr (.inr (some 2))), (0, .inr (.inr (some 0))), (1, .inl a1), (2, .inl a2)]) rfl ?_
      refine zg_aload_n dd_11_39 rfl (j := 1) rfl ?_
      refine zg_getR dd_11_40 zl_T_110 zCs_2 rfl zCr_2_4 ?_
      refine zg_iload_n dd_11_43 rfl (j := 3) rfl ?_
      refine zg_iload_n dd_11_44 rfl (j := 4) rfl ?_
      refine zg_iast dd_11_45 zCs_5 g9 ?_
      refine zg_iload dd_11_46 (j := 0) rfl ?_
      obtain rfl := Option.some.inj h
      exact zg_iret dd_11_48 rfl
    · replace h := z_t h q8
      refine zg_aload_n dd_11_25 rfl (j := 1) rfl ?_
      refine zg_iconst dd_11_26 kI_1 ?_
      obtain ⟨r10, e11, h⟩ := z_bd h
      refine zg_invV_i (av := [.inl (1 : Int32)]) (st := []) (n := 1) dd_11_27 ca_2 zw_430 zw_432 zv_0 zCs_0 zcl_11 rfl (mt_fc_T_refuse e11) rfl ⟨by decide +kernel, by decide⟩ (Nat.le_of_ble_eq_true rfl) ?_
      obtain rfl := Option.some.inj h
      exact zg_iret dd_11_30 rfl
/-! TurnedLand$Ground.takeOffLatest[2] -/
def fc_Ground_takeOffLatest (I : zI) : Option zI :=
  if (I 2 2) = 0 then
    some I
  else
    z_guard (zb ((2 : Int32) * ((I 2 2) - (1 : Int32))) 32) <|
    z_guard (zb (I 4 ((2 : Int32) * ((I 2 2) - (1 : Int32))).toNatClampNeg) 32) <|
    z_guard (zb (((2 : Int32) * ((I 2 2) - (1 : Int32))) + (1 : Int32)) 32) <|
    z_guard (zb (I 4 (((2 : Int32) * ((I 2 2) - (1 : Int32))) + (1 : Int32)).toNatClampNeg) 32) <|
    some (zup (zup (zup I 2 2 ((I 2 2) - (1 : Int32))) 6 (I 4 ((2 : Int32) * ((I 2 2) - (1 : Int32))).toNatClampNeg).toNatClampNeg (-1 : Int32)) 6 (I 4 (((2 : Int32) * ((I 2 2) - (1 : Int32))) + (1 : Int32)).toNatClampNeg).toNatClampNeg (-1 : Int32))
set_option maxRecDepth 20000 in
theorem mt_fc_Ground_takeOffLatest {I : zI} {res : zI} (h : fc_Ground_takeOffLatest I = some res) : zM 1 ym_13 [.inr (.inr (some 2))] (zCs, zCr, I) none (zCs, zCr, res) 0 0 := by
  refine zM_of (by decide) (Nat.le_of_ble_eq_true rfl) (lv := [(0, .inr (.inr (some 2)))]) rfl ?_
  rw [fc_Ground_takeOffLatest] at h
  refine zg_aload_n dd_13_0 rfl (j := 0) rfl ?_
  refine zg_getI (x := (I 2 2)) dd_13_1 zl_Ground_19 zCs_2 rfl rfl ?_
  refine zg_if_ne (tgt := 8) dd_13_4 (by decide) (fun q1 => ?_) (fun q1 => ?_)
  · replace h := z_f h q1
    refine zg_aload_n dd_13_8 rfl (j := 0) rfl ?_
    refine zg_dup dd_13_9 rfl ?_
    refine zg_getI (x := (I 2 2)) dd_13_10 zl_Ground_19 zCs_2 rfl rfl ?_
    refine zg_iconst dd_13_13 kI_1 ?_
    refine zg_isub dd_13_14 ?_
    refine zg_putI dd_13_15 zp_Ground_19 zCs_2 rfl (zSt_int _) ?_
    refine zg_aload_n dd_13_18 rfl (j := 0) rfl ?_
    refine zg_getR dd_13_19 zl_Ground_28 zCs_2 rfl zCr_2_5 ?_
    refine zg_aload_n dd_13_22 rfl (j := 0) rfl ?_
    refine zg_getR dd_13_23 zl_Ground_22 zCs_2 rfl zCr_2_3 ?_
    refine zg_iconst dd_13_26 kI_2 ?_
    refine zg_aload_n dd_13_27 rfl (j := 0) rfl ?_
    refine zg_getI (x := ((I 2 2) - (1 : Int32))) dd_13_28 zl_Ground_19 zCs_2 rfl rfl ?_
    refine zg_imul dd_13_31 ?_
    obtain ⟨g2, h⟩ := z_gd h
    refine zg_iald (w := (I 4 ((2 : Int32) * ((I 2 2) - (1 : Int32))).toNatClampNeg)) dd_13_32 zCs_4 g2 rfl ?_
    refine zg_iconst dd_13_33 kI_m1 ?_
    obtain ⟨g3, h⟩ := z_gd h
    refine zg_iast dd_13_34 zCs_6 g3 ?_
    refine zg_aload_n dd_13_35 rfl (j := 0) rfl ?_
    refine zg_getR dd_13_36 zl_Ground_28 zCs_2 rfl zCr_2_5 ?_
    refine zg_aload_n dd_13_39 rfl (j := 0) rfl ?_
    refine zg_getR dd_13_40 zl_Ground_22 zCs_2 rfl zCr_2_3 ?_
    refine zg_iconst dd_13_43 kI_2 ?_
    refine zg_aload_n dd_13_44 rfl (j := 0) rfl ?_
    refine zg_getI (x := ((I 2 2) - (1 : Int32))) dd_13_45 zl_Ground_19 zCs_2 rfl rfl ?_
    refine zg_imul dd_13_48 ?_
    refine zg_iconst dd_13_49 kI_1 ?_
    refine zg_iadd dd_13_50 ?_
    obtain ⟨g4, h⟩ := z_gd h
    refine zg_iald (w := (I 4 (((2 : Int32) * ((I 2 2) - (1 : Int32))) + (1 : Int32)).toNatClampNeg)) dd_13_51 zCs_4 g4 rfl ?_
    refine zg_iconst dd_13_52 kI_m1 ?_
    obtain ⟨g5, h⟩ := z_gd h
    refine zg_iast dd_13_53 zCs_6 g5 ?_
    obtain rfl := Option.some.inj h
    exact zg_vret dd_13_54 rfl
  · replace h := z_t h q1
    obtain rfl := Option.some.inj h
    exact zg_vret dd_13_7 rfl
/-! TurnedLand.part(0,) -/
def fc_T_part (I : zI) : Option (Int32 × zI) :=
  if (I 2 2) = 0 then
    (fc_T_refuse I (3 : Int32)).bind fun r4 =>
    some (r4.1, r4.2)
  else
    (fc_Ground_takeOffLatest I).bind fun r2 =>
    some ((r2 2 2), (zup r2 29 0 ((r2 29 0) &&& (((1 : Int32) <<< ((r2 2 2) &&& 31)) ^^^ (-1 : Int32)))))
set_option maxRecDepth 20000 in
theorem mt_fc_T_part {I : zI} {res : (Int32 × zI)} (h : fc_T_part I = some res) : zM 3 ym_12 [.inr (.inr (some 0))] (zCs, zCr, I) (some (.inl res.1)) (zCs, zCr, res.2) 0 0 := by
  refine zM_of (by decide) (Nat.le_of_ble_eq_true rfl) (lv := [(0, .inr (.inr (some 0)))]) rfl ?_
  rw [fc_T_part] at h
  refine zg_aload_n dd_12_0 rfl (j := 0) rfl ?_
  refine zg_getR dd_12_1 zl_T_12 zCs_0 rfl zCr_0_0 ?_
  refine zg_getR dd_12_4 zl_T_76 zCs_1 rfl zCr_1_0 ?_
  refine zg_astore_n dd_12_7 rfl (Nat.le_of_ble_eq_true rfl) (lv' := [(1, .inr (.inr (some 2))), (0, .inr (.inr (some 0)))]) rfl ?_
  refine zg_aload_n dd_12_8 rfl (j := 0) rfl ?_
  refine zg_getI (x := (I 2 2)) dd_12_9 zl_T_116 zCs_2 rfl rfl ?_
  refine zg_if_ne (tgt := 21) dd_12_12 (by decide) (fun q1 => ?_) (fun q1 => ?_)
  · replace h := z_f h q1
    refine zg_aload_n dd_12_21 rfl (j := 0) rfl ?_
    obtain ⟨r2, e3, h⟩ := z_bd h
    refine zg_invV_v (av := []) (st := []) (n := 0) dd_12_22 ca_13 zw_476 zw_477 zw_478 zCs_2 zcl_2 rfl (mt_fc_Ground_takeOffLatest e3) rfl ⟨by decide +kernel, by decide⟩ (Nat.le_of_ble_eq_true rfl) ?_
    refine zg_aload_n dd_12_25 rfl (j := 1) rfl ?_
    refine zg_getR dd_12_26 zl_T_12 zCs_0 rfl zCr_0_0 ?_
    refine zg_getR dd_12_29 zl_T_122 zCs_1 rfl zCr_1_3 ?_
    refine zg_dup dd_12_32 rfl ?_
    refine zg_getI (x := (r2 29 0)) dd_12_33 zl_T_126 zCs_29 rfl rfl ?_
    refine zg_iconst dd_12_36 kI_1 ?_
    refine zg_aload_n dd_12_37 rfl (j := 0) rfl ?_
    refine zg_getI (x := (r2 2 2)) dd_12_38 zl_T_116 zCs_2 rfl rfl ?_
    refine zg_ishl dd_12_41 ?_
    refine zg_iconst dd_12_42 kI_m1 ?_
    refine zg_ixor dd_12_43 ?_
    refine zg_iand dd_12_44 ?_
    refine zg_putI dd_12_45 zp_T_126 zCs_29 rfl (zSt_int _) ?_
    refine zg_aload_n dd_12_48 rfl (j := 0) rfl ?_
    refine zg_getI (x := (r2 2 2)) dd_12_49 zl_T_116 zCs_2 rfl rfl ?_
    obtain rfl := Option.some.inj h
    exact zg_iret dd_12_52 rfl
  · replace h := z_t h q1
    refine zg_aload_n dd_12_15 rfl (j := 1) rfl ?_
    refine zg_iconst dd_12_16 kI_3 ?_
    obtain ⟨r4, e5, h⟩ := z_bd h
    refine zg_invV_i (av := [.inl (3 : Int32)]) (st := []) (n := 1) dd_12_17 ca_2 zw_430 zw_432 zv_0 zCs_0 zcl_11 rfl (mt_fc_T_refuse e5) rfl ⟨by decide +kernel, by decide⟩ (Nat.le_of_ble_eq_true rfl) ?_
    obtain rfl := Option.some.inj h
    exact zg_iret dd_12_20 rfl
/-! TurnedLand$Ground.otherEdge[2, None] -/
def fc_Ground_otherEdge (I : zI) (a1 : Int32) : Option Int32 :=
  (fc_Ground_hasEdge I a1).bind fun r1 =>
  if r1 = 0 then
    some (-1 : Int32)
  else
    z_guard (zb a1 32) <|
    if (I 6 a1.toNatClampNeg) = (-1 : Int32) then
      some (-1 : Int32)
    else
      z_guard (zb ((2 : Int32) * (I 6 a1.toNatClampNeg)) 32) <|
      if (I 4 ((2 : Int32) * (I 6 a1.toNatClampNeg)).toNatClampNeg) = a1 then
        z_guard (zb (((2 : Int32) * (I 6 a1.toNatClampNeg)) + (1 : Int32)) 32) <|
        some (I 4 (((2 : Int32) * (I 6 a1.toNatClampNeg)) + (1 : Int32)).toNatClampNeg)
      else
        some (I 4 ((2 : Int32) * (I 6 a1.toNatClampNeg)).toNatClampNeg)
set_option maxRecDepth 20000 in
theorem mt_fc_Ground_otherEdge {I : zI} {a1 : Int32} {res : Int32} (h : fc_Ground_otherEdge I a1 = some res) : zM 2 ym_15 [.inr (.inr (some 2)), .inl a1] (zCs, zCr, I) (some (.inl res)) (zCs, zCr, I) 0 0 := by
  refine zM_of (by decide) (Nat.le_of_ble_eq_true rfl) (lv := [(0, .inr (.inr (some 2))), (1, .inl a1)]) rfl ?_
  rw [fc_Ground_otherEdge] at h
  refine zg_aload_n dd_15_0 rfl (j := 0) rfl ?_
  refine zg_iload_n dd_15_1 rfl (j := 1) rfl ?_
  obtain ⟨r1, e2, h⟩ := z_bd h
  refine zg_invV_i (av := [.inl a1]) (st := []) (n := 1) dd_15_2 ca_7 zw_452 zw_453 zw_454 zCs_2 zcl_2 rfl (mt_fc_Ground_hasEdge e2) rfl ⟨by decide +kernel, by decide⟩ (Nat.le_of_ble_eq_true rfl) ?_
  refine zg_if_eq (tgt := 18) dd_15_5 (by decide) (fun q3 => ?_) (fun q3 => ?_)
  · replace h := z_t h q3
    refine zg_iconst dd_15_18 kI_m1 ?_
    obtain rfl := Option.some.inj h
    exact zg_iret dd_15_19 rfl
  · replace h := z_f h q3
    refine zg_aload_n dd_15_8 rfl (j := 0) rfl ?_
    refine zg_getR dd_15_9 zl_Ground_28 zCs_2 rfl zCr_2_5 ?_
    refine zg_iload_n dd_15_12 rfl (j := 1) rfl ?_
    obtain ⟨g4, h⟩ := z_gd h
    refine zg_iald (w := (I 6 a1.toNatClampNeg)) dd_15_13 zCs_6 g4 rfl ?_
    refine zg_iconst dd_15_14 kI_m1 ?_
    refine zg_icmp_ne (tgt := 20) dd_15_15 (by decide) (fun q5 => ?_) (fun q5 => ?_)
    · replace h := z_f h q5
      refine zg_iconst dd_15_20 kI_2 ?_
      refine zg_aload_n dd_15_21 rfl (j := 0) rfl ?_
      refine zg_getR dd_15_22 zl_Ground_28 zCs_2 rfl zCr_2_5 ?_
      refine zg_iload_n dd_15_25 rfl (j := 1) rfl ?_
      refine zg_iald (w := (I 6 a1.toNatClampNeg)) dd_15_26 zCs_6 g4 rfl ?_
      refine zg_imul dd_15_27 ?_
      refine zg_istore_n dd_15_28 rfl (Nat.le_of_ble_eq_true rfl) (lv' := [(2, .inl ((2 : Int32) * (I 6 a1.toNatClampNeg))), (0, .inr (.inr (some 2))), (1, .inl a1)]) rfl ?_
      refine zg_aload_n dd_15_29 rfl (j := 1) rfl ?_
      refine zg_getR dd_15_30 zl_Ground_22 zCs_2 rfl zCr_2_3 ?_
      refine zg_iload_n dd_15_33 rfl (j := 0) rfl ?_
      obtain ⟨g6, h⟩ := z_gd h
      refine zg_iald (w := (I 4 ((2 : Int32) * (I 6 a1.toNatClampNeg)).toNatClampNeg)) dd_15_34 zCs_4 g6 rfl ?_
      refine zg_iload_n dd_15_35 rfl (j := 2) rfl ?_
      refine zg_icmp_ne (tgt := 50) dd_15_36 (by decide) (fun q7 => ?_) (fun q7 => ?_)
      · replace h := z_f h q7
        refine zg_aload_n dd_15_50 rfl (j := 1) rfl ?_
        refine zg_getR dd_15_51 zl_Ground_22 zCs_2 rfl zCr_2_3 ?_
        refine zg_iload_n dd_15_54 rfl (j := 0) rfl ?_
        refine zg_iald (w := (I 4 ((2 : Int32) * (I 6 a1.toNatClampNeg)).toNatClampNeg)) dd_15_55 zCs_4 g6 rfl ?_
        obtain rfl := Option.some.inj h
        exact zg_iret dd_15_56 rfl
      · replace h := z_t h q7
        refine zg_aload_n dd_15_39 rfl (j := 1) rfl ?_
        refine zg_getR dd_15_40 zl_Ground_22 zCs_2 rfl zCr_2_3 ?_
        refine zg_iload_n dd_15_43 rfl (j := 0) rfl ?_
        refine zg_iconst dd_15_44 kI_1 ?_
        refine zg_iadd dd_15_45 ?_
        obtain ⟨g8, h⟩ := z_gd h
        refine zg_iald (w := (I 4 (((2 : Int32) * (I 6 a1.toNatClampNeg)) + (1 : Int32)).toNatClampNeg)) dd_15_46 zCs_4 g8 rfl ?_
        refine zg_goto (tgt := 56) dd_15_47 (by decide) ?_
        obtain rfl := Option.some.inj h
        exact zg_iret dd_15_56 rfl
    · replace h := z_t h q5
      refine zg_iconst dd_15_18 kI_m1 ?_
      obtain rfl := Option.some.inj h
      exact zg_iret dd_15_19 rfl
/-! TurnedLand.across(0, None) -/
def fc_T_across (I : zI) (a1 : Int32) : Option (Int32 × zI) :=
  (fc_Ground_hasEdge I a1).bind fun r1 =>
  if r1 = 0 then
    (fc_T_refuse I (1 : Int32)).bind fun r9 =>
    some (r9.1, r9.2)
  else
    (fc_Ground_otherEdge I a1).bind fun r4 =>
    if r4 = (-1 : Int32) then
      (fc_T_refuse I (2 : Int32)).bind fun r7 =>
      some (r7.1, r7.2)
    else
      some (r4, I)
set_option maxRecDepth 20000 in
theorem mt_fc_T_across {I : zI} {a1 : Int32} {res : (Int32 × zI)} (h : fc_T_across I a1 = some res) : zM 3 ym_14 [.inr (.inr (some 0)), .inl a1] (zCs, zCr, I) (some (.inl res.1)) (zCs, zCr, res.2) 0 0 := by
  refine zM_of (by decide) (Nat.le_of_ble_eq_true rfl) (lv := [(0, .inr (.inr (some 0))), (1, .inl a1)]) rfl ?_
  rw [fc_T_across] at h
  refine zg_aload_n dd_14_0 rfl (j := 0) rfl ?_
  refine zg_getR dd_14_1 zl_T_12 zCs_0 rfl zCr_0_0 ?_
  refine zg_getR dd_14_4 zl_T_76 zCs_1 rfl zCr_1_0 ?_
  refine zg_iload_n dd_14_7 rfl (j := 1) rfl ?_
  obtain ⟨r1, e2, h⟩ := z_bd h
  refine zg_invV_i (av := [.inl a1]) (st := []) (n := 1) dd_14_8 ca_7 zw_484 zw_453 zw_454 zCs_2 zcl_2 rfl (mt_fc_Ground_hasEdge e2) rfl ⟨by decide +kernel, by decide⟩ (Nat.le_of_ble_eq_true rfl) ?_
  refine zg_if_ne (tgt := 20) dd_14_11 (by decide) (fun q3 => ?_) (fun q3 => ?_)
  · replace h := z_f h q3
    refine zg_aload_n dd_14_20 rfl (j := 0) rfl ?_
    refine zg_getR dd_14_21 zl_T_12 zCs_0 rfl zCr_0_0 ?_
    refine zg_getR dd_14_24 zl_T_76 zCs_1 rfl zCr_1_0 ?_
    refine zg_iload_n dd_14_27 rfl (j := 1) rfl ?_
    obtain ⟨r4, e5, h⟩ := z_bd h
    refine zg_invV_i (av := [.inl a1]) (st := []) (n := 1) dd_14_28 ca_15 zw_485 zw_486 zw_487 zCs_2 zcl_2 rfl (mt_fc_Ground_otherEdge e5) rfl ⟨by decide +kernel, by decide⟩ (Nat.le_of_ble_eq_true rfl) ?_
    refine zg_istore_n dd_14_31 rfl (Nat.le_of_ble_eq_true rfl) (lv' := [(2, .inl r4), (0, .inr (.inr (some 0))), (1, .inl a1)]) rfl ?_
    refine zg_iload_n dd_14_32 rfl (j := 0) rfl ?_
    refine zg_iconst dd_14_33 kI_m1 ?_
    refine zg_icmp_ne (tgt := 45) dd_14_34 (by decide) (fun q6 => ?_) (fun q6 => ?_)
    · replace h := z_f h q6
      refine zg_iload_n dd_14_45 rfl (j := 0) rfl ?_
      obtain rfl := Option.some.inj h
      exact zg_iret dd_14_46 rfl
    · replace h := z_t h q6
      refine zg_aload_n dd_14_37 rfl (j := 1) rfl ?_
      refine zg_iconst dd_14_38 kI_2 ?_
      obtain ⟨r7, e8, h⟩ := z_bd h
      refine zg_invV_i (av := [.inl (2 : Int32)]) (st := []) (n := 1) dd_14_39 ca_2 zw_430 zw_432 zv_0 zCs_0 zcl_11 rfl (mt_fc_T_refuse e8) rfl ⟨by decide +kernel, by decide⟩ (Nat.le_of_ble_eq_true rfl) ?_
      refine zg_goto (tgt := 46) dd_14_42 (by decide) ?_
      obtain rfl := Option.some.inj h
      exact zg_iret dd_14_46 rfl
  · replace h := z_t h q3
    refine zg_aload_n dd_14_14 rfl (j := 0) rfl ?_
    refine zg_iconst dd_14_15 kI_1 ?_
    obtain ⟨r9, e10, h⟩ := z_bd h
    refine zg_invV_i (av := [.inl (1 : Int32)]) (st := []) (n := 1) dd_14_16 ca_2 zw_430 zw_432 zv_0 zCs_0 zcl_11 rfl (mt_fc_T_refuse e10) rfl ⟨by decide +kernel, by decide⟩ (Nat.le_of_ble_eq_true rfl) ?_
    obtain rfl := Option.some.inj h
    exact zg_iret dd_14_19 rfl
/-! TurnedLand$Shape.begin[101, None] -/
def fc_Shape_begin_L2 : Nat → Int32 → Int32 → zI → Option zI
  | 0, _, _, _ => none
  | nf + 1, v1, v2, I =>
    if v1 ≤ v2 then
      some I
    else
      z_guard (zb v2 32) <|
      fc_Shape_begin_L2 nf v1 (v2 + (1 : Int32)) (zup I 102 v2.toNatClampNeg v2)
def fc_Shape_begin (I : zI) (a1 : Int32) : Option zI :=
  fc_Shape_begin_L2
    100 a1 (0 : Int32) I
set_option maxRecDepth 20000 in
theorem lt_fc_Shape_begin_L2 {res : zI} : ∀ (nf : Nat) (v1 : Int32) (v2 : Int32) (I : zI), fc_Shape_begin_L2 nf v1 v2 I = some res → zG 1 ym_19 0 0 none (zCs, zCr, res) zCs.length 2 [(0, .inr (.inr (some 101))), (1, .inl v1), (2, .inl v2)] [] (zCs, zCr, I) 0 0 := by
  intro nf
  induction nf with
  | zero =>
    intro v1 v2 I h
    have h2 : none = some res := h
    cases h2
  | succ nf ih =>
    intro v1 v2 I h
    rw [fc_Shape_begin_L2] at h
    refine zg_iload_n dd_19_2 rfl (j := 2) rfl ?_
    refine zg_iload_n dd_19_3 rfl (j := 1) rfl ?_
    refine zg_icmp_ge (tgt := 20) dd_19_4 (by decide) (fun q1 => ?_) (fun q1 => ?_)
    · replace h := z_t h q1
      obtain rfl := Option.some.inj h
      exact zg_vret dd_19_20 rfl
    · replace h := z_f h q1
      refine zg_aload_n dd_19_7 rfl (j := 0) rfl ?_
      refine zg_getR dd_19_8 zl_Shape_9 zCs_101 rfl zCr_101_0 ?_
      refine zg_iload_n dd_19_11 rfl (j := 2) rfl ?_
      refine zg_iload_n dd_19_12 rfl (j := 2) rfl ?_
      obtain ⟨g2, h⟩ := z_gd h
      refine zg_iast dd_19_13 zCs_102 g2 ?_
      refine zg_iinc dd_19_14 (j := 2) rfl (v := (v2 + (1 : Int32))) (by rw [kI_1]) (Nat.le_of_ble_eq_true rfl) (lv' := [(2, .inl (v2 + (1 : Int32))), (0, .inr (.inr (some 101))), (1, .inl v1)]) rfl ?_
      refine zg_goto (tgt := 2) dd_19_17 (by decide) ?_
      refine zg_sub [1, 2, 0] rfl ?_
      exact ih _ _ _ h
set_option maxRecDepth 20000 in
theorem mt_fc_Shape_begin {I : zI} {a1 : Int32} {res : zI} (h : fc_Shape_begin I a1 = some res) : zM 1 ym_19 [.inr (.inr (some 101)), .inl a1] (zCs, zCr, I) none (zCs, zCr, res) 0 0 := by
  refine zM_of (by decide) (Nat.le_of_ble_eq_true rfl) (lv := [(0, .inr (.inr (some 101))), (1, .inl a1)]) rfl ?_
  rw [fc_Shape_begin] at h
  refine zg_iconst dd_19_0 kI_0 ?_
  refine zg_istore_n dd_19_1 rfl (Nat.le_of_ble_eq_true rfl) (lv' := [(2, .inl (0 : Int32)), (0, .inr (.inr (some 101))), (1, .inl a1)]) rfl ?_
  refine zg_sub [1, 2, 0] rfl ?_
  refine lt_fc_Shape_begin_L2  _ _ _ _ h
/-! TurnedLand$Shape.secondCorner[None] -/
def fc_Shape_secondCorner (I : zI) (a0 : Int32) : Option Int32 :=
  if (a0 % (4 : Int32)) = (3 : Int32) then
    some (a0 - (3 : Int32))
  else
    some (a0 + (1 : Int32))
set_option maxRecDepth 20000 in
theorem mt_fc_Shape_secondCorner {I : zI} {a0 : Int32} {res : Int32} (h : fc_Shape_secondCorner I a0 = some res) : zM 1 ym_20 [.inl a0] (zCs, zCr, I) (some (.inl res)) (zCs, zCr, I) 0 0 := by
  refine zM_of (by decide) (Nat.le_of_ble_eq_true rfl) (lv := [(0, .inl a0)]) rfl ?_
  rw [fc_Shape_secondCorner] at h
  refine zg_iload_n dd_20_0 rfl (j := 0) rfl ?_
  refine zg_iconst dd_20_1 kI_4 ?_
  refine zg_irem dd_20_2 (by decide) ?_
  refine zg_iconst dd_20_3 kI_3 ?_
  refine zg_icmp_ne (tgt := 13) dd_20_4 (by decide) (fun q1 => ?_) (fun q1 => ?_)
  · replace h := z_f h q1
    refine zg_iload_n dd_20_13 rfl (j := 0) rfl ?_
    refine zg_iconst dd_20_14 kI_1 ?_
    refine zg_iadd dd_20_15 ?_
    obtain rfl := Option.some.inj h
    exact zg_iret dd_20_16 rfl
  · replace h := z_t h q1
    refine zg_iload_n dd_20_7 rfl (j := 0) rfl ?_
    refine zg_iconst dd_20_8 kI_3 ?_
    refine zg_isub dd_20_9 ?_
    refine zg_goto (tgt := 16) dd_20_10 (by decide) ?_
    obtain rfl := Option.some.inj h
    exact zg_iret dd_20_16 rfl
/-! TurnedLand$Shape.makeOne[101, None, None, None] -/
def fc_Shape_makeOne_L27 : Nat → Int32 → Int32 → Int32 → Int32 → zI → Option zI
  | 0, _, _, _, _, _ => none
  | nf + 1, v1, v4, v5, v6, I =>
    if v1 ≤ v6 then
      some I
    else
      z_guard (zb v6 32) <|
      if (I 102 v6.toNatClampNeg) = v5 then
        fc_Shape_makeOne_L27 nf v1 v4 v5 (v6 + (1 : Int32)) (zup I 102 v6.toNatClampNeg v4)
      else
        fc_Shape_makeOne_L27 nf v1 v4 v5 (v6 + (1 : Int32)) I
def fc_Shape_makeOne (I : zI) (a1 : Int32) (a2 : Int32) (a3 : Int32) : Option zI :=
  z_guard (zb a2 32) <|
  z_guard (zb a3 32) <|
  if (I 102 a2.toNatClampNeg) = (I 102 a3.toNatClampNeg) then
    some I
  else
    fc_Shape_makeOne_L27
      100 a1 (I 102 a2.toNatClampNeg) (I 102 a3.toNatClampNeg) (0 : Int32) I
set_option maxRecDepth 20000 in
theorem lt_fc_Shape_makeOne_L27 {res : zI} : ∀ (nf : Nat) (v1 : Int32) (v4 : Int32) (v5 : Int32) (v6 : Int32) (I : zI), fc_Shape_makeOne_L27 nf v1 v4 v5 v6 I = some res → zG 1 ym_21 0 0 none (zCs, zCr, res) zCs.length 27 [(0, .inr (.inr (some 101))), (1, .inl v1), (4, .inl v4), (5, .inl v5), (6, .inl v6)] [] (zCs, zCr, I) 0 0 := by
  intro nf
  induction nf with
  | zero =>
    intro v1 v4 v5 v6 I h
    have h2 : none = some res := h
    cases h2
  | succ nf ih =>
    intro v1 v4 v5 v6 I h
    rw [fc_Shape_makeOne_L27] at h
    refine zg_iload dd_21_27 (j := 4) rfl ?_
    refine zg_iload_n dd_21_29 rfl (j := 1) rfl ?_
    refine zg_icmp_ge (tgt := 60) dd_21_30 (by decide) (fun q4 => ?_) (fun q4 => ?_)
    · replace h := z_t h q4
      obtain rfl := Option.some.inj h
      exact zg_vret dd_21_60 rfl
    · replace h := z_f h q4
      refine zg_aload_n dd_21_33 rfl (j := 0) rfl ?_
      refine zg_getR dd_21_34 zl_Shape_9 zCs_101 rfl zCr_101_0 ?_
      refine zg_iload dd_21_37 (j := 4) rfl ?_
      obtain ⟨g5, h⟩ := z_gd h
      refine zg_iald (w := (I 102 v6.toNatClampNeg)) dd_21_39 zCs_102 g5 rfl ?_
      refine zg_iload dd_21_40 (j := 3) rfl ?_
      refine zg_icmp_ne (tgt := 54) dd_21_42 (by decide) (fun q6 => ?_) (fun q6 => ?_)
      · replace h := z_f h q6
        refine zg_iinc dd_21_54 (j := 4) rfl (v := (v6 + (1 : Int32))) (by rw [kI_1]) (Nat.le_of_ble_eq_true rfl) (lv' := [(6, .inl (v6 + (1 : Int32))), (0, .inr (.inr (some 101))), (1, .inl v1), (4, .inl v4), (5, .inl v5)]) rfl ?_
        refine zg_goto (tgt := 27) dd_21_57 (by decide) ?_
        refine zg_sub [1, 2, 3, 4, 0] rfl ?_
        exact ih _ _ _ _ _ h
      · replace h := z_t h q6
        refine zg_aload_n dd_21_45 rfl (j := 0) rfl ?_
        refine zg_getR dd_21_46 zl_Shape_9 zCs_101 rfl zCr_101_0 ?_
        refine zg_iload dd_21_49 (j := 4) rfl ?_
        refine zg_iload dd_21_51 (j := 2) rfl ?_
        refine zg_iast dd_21_53 zCs_102 g5 ?_
        refine zg_iinc dd_21_54 (j := 4) rfl (v := (v6 + (1 : Int32))) (by rw [kI_1]) (Nat.le_of_ble_eq_true rfl) (lv' := [(6, .inl (v6 + (1 : Int32))), (0, .inr (.inr (some 101))), (1, .inl v1), (4, .inl v4), (5, .inl v5)]) rfl ?_
        refine zg_goto (tgt := 27) dd_21_57 (by decide) ?_
        refine zg_sub [1, 2, 3, 4, 0] rfl ?_
        exact ih _ _ _ _ _ h
set_option maxRecDepth 20000 in
theorem mt_fc_Shape_makeOne {I : zI} {a1 : Int32} {a2 : Int32} {a3 : Int32} {res : zI} (h : fc_Shape_makeOne I a1 a2 a3 = some res) : zM 1 ym_21 [.inr (.inr (some 101)), .inl a1, .inl a2, .inl a3] (zCs, zCr, I) none (zCs, zCr, res) 0 0 := by
  refine zM_of (by decide) (Nat.le_of_ble_eq_true rfl) (lv := [(0, .inr (.inr (some 101))), (1, .inl a1), (2, .inl a2), (3, .inl a3)]) rfl ?_
  rw [fc_Shape_makeOne] at h
  refine zg_aload_n dd_21_0 rfl (j := 0) rfl ?_
  refine zg_getR dd_21_1 zl_Shape_9 zCs_101 rfl zCr_101_0 ?_
  refine zg_iload_n dd_21_4 rfl (j := 2) rfl ?_
  obtain ⟨g1, h⟩ := z_gd h
  refine zg_iald (w := (I 102 a2.toNatClampNeg)) dd_21_5 zCs_102 g1 rfl ?_
  refine zg_istore dd_21_6 (Nat.le_of_ble_eq_true rfl) (lv' := [(4, .inl (I 102 a2.toNatClampNeg)), (0, .inr (.inr (some 101))), (1, .inl a1), (2, .inl a2), (3, .inl a3)]) rfl ?_
  refine zg_aload_n dd_21_8 rfl (j := 1) rfl ?_
  refine zg_getR dd_21_9 zl_Shape_9 zCs_101 rfl zCr_101_0 ?_
  refine zg_iload_n dd_21_12 rfl (j := 4) rfl ?_
  obtain ⟨g2, h⟩ := z_gd h
  refine zg_iald (w := (I 102 a3.toNatClampNeg)) dd_21_13 zCs_102 g2 rfl ?_
  refine zg_istore dd_21_14 (Nat.le_of_ble_eq_true rfl) (lv' := [(5, .inl (I 102 a3.toNatClampNeg)), (4, .inl (I 102 a2.toNatClampNeg)), (0, .inr (.inr (some 101))), (1, .inl a1), (2, .inl a2), (3, .inl a3)]) rfl ?_
  refine zg_iload dd_21_16 (j := 1) rfl ?_
  refine zg_iload dd_21_18 (j := 0) rfl ?_
  refine zg_icmp_ne (tgt := 24) dd_21_20 (by decide) (fun q3 => ?_) (fun q3 => ?_)
  · replace h := z_f h q3
    refine zg_iconst dd_21_24 kI_0 ?_
    refine zg_istore dd_21_25 (Nat.le_of_ble_eq_true rfl) (lv' := [(6, .inl (0 : Int32)), (5, .inl (I 102 a3.toNatClampNeg)), (4, .inl (I 102 a2.toNatClampNeg)), (0, .inr (.inr (some 101))), (1, .inl a1), (2, .inl a2), (3, .inl a3)]) rfl ?_
    refine zg_sub [3, 4, 2, 1, 0] rfl ?_
    refine lt_fc_Shape_makeOne_L27  _ _ _ _ _ _ h
  · replace h := z_t h q3
    obtain rfl := Option.some.inj h
    exact zg_vret dd_21_23 rfl
/-! TurnedLand$Shape.makeCornersOne[101, 2] -/
def fc_Shape_makeCornersOne_L14 : Nat → Int32 → Int32 → zI → Option zI
  | 0, _, _, _ => none
  | nf + 1, v2, v3, I =>
    if (I 2 2) ≤ v3 then
      some I
    else
      z_guard (zb ((2 : Int32) * v3) 32) <|
      z_guard (zb (((2 : Int32) * v3) + (1 : Int32)) 32) <|
      z_guard (zb v3 16) <|
      if (I 5 v3.toNatClampNeg) = (1 : Int32) then
        (fc_Shape_makeOne I v2 (I 4 ((2 : Int32) * v3).toNatClampNeg) (I 4 (((2 : Int32) * v3) + (1 : Int32)).toNatClampNeg)).bind fun r19 =>
        (fc_Shape_secondCorner r19 (I 4 ((2 : Int32) * v3).toNatClampNeg)).bind fun r21 =>
        (fc_Shape_secondCorner r19 (I 4 (((2 : Int32) * v3) + (1 : Int32)).toNatClampNeg)).bind fun r24 =>
        (fc_Shape_makeOne r19 v2 r21 r24).bind fun r26 =>
        fc_Shape_makeCornersOne_L14 nf v2 (v3 + (1 : Int32)) r26
      else
        (fc_Shape_secondCorner I (I 4 (((2 : Int32) * v3) + (1 : Int32)).toNatClampNeg)).bind fun r9 =>
        (fc_Shape_makeOne I v2 (I 4 ((2 : Int32) * v3).toNatClampNeg) r9).bind fun r11 =>
        (fc_Shape_secondCorner r11 (I 4 ((2 : Int32) * v3).toNatClampNeg)).bind fun r13 =>
        (fc_Shape_makeOne r11 v2 r13 (I 4 (((2 : Int32) * v3) + (1 : Int32)).toNatClampNeg)).bind fun r16 =>
        fc_Shape_makeCornersOne_L14 nf v2 (v3 + (1 : Int32)) r16
def fc_Shape_makeCornersOne (I : zI) : Option zI :=
  (fc_Shape_begin I ((4 : Int32) * (I 2 0))).bind fun r1 =>
  fc_Shape_makeCornersOne_L14
    100 ((4 : Int32) * (I 2 0)) (0 : Int32) r1
set_option maxRecDepth 20000 in
theorem lt_fc_Shape_makeCornersOne_L14 {res : zI} : ∀ (nf : Nat) (v2 : Int32) (v3 : Int32) (I : zI), fc_Shape_makeCornersOne_L14 nf v2 v3 I = some res → zG 2 ym_18 0 0 none (zCs, zCr, res) zCs.length 14 [(0, .inr (.inr (some 101))), (1, .inr (.inr (some 2))), (2, .inl v2), (3, .inl v3)] [] (zCs, zCr, I) 0 0 := by
  intro nf
  induction nf with
  | zero =>
    intro v2 v3 I h
    have h2 : none = some res := h
    cases h2
  | succ nf ih =>
    intro v2 v3 I h
    rw [fc_Shape_makeCornersOne_L14] at h
    refine zg_iload_n dd_18_14 rfl (j := 3) rfl ?_
    refine zg_aload_n dd_18_15 rfl (j := 1) rfl ?_
    refine zg_getI (x := (I 2 2)) dd_18_16 zl_Shape_36 zCs_2 rfl rfl ?_
    refine zg_icmp_ge (tgt := 114) dd_18_19 (by decide) (fun q3 => ?_) (fun q3 => ?_)
    · replace h := z_t h q3
      obtain rfl := Option.some.inj h
      exact zg_vret dd_18_114 rfl
    · replace h := z_f h q3
      refine zg_aload_n dd_18_22 rfl (j := 1) rfl ?_
      refine zg_getR dd_18_23 zl_Shape_39 zCs_2 rfl zCr_2_3 ?_
      refine zg_iconst dd_18_26 kI_2 ?_
      refine zg_iload_n dd_18_27 rfl (j := 3) rfl ?_
      refine zg_imul dd_18_28 ?_
      obtain ⟨g4, h⟩ := z_gd h
      refine zg_iald (w := (I 4 ((2 : Int32) * v3).toNatClampNeg)) dd_18_29 zCs_4 g4 rfl ?_
      refine zg_istore dd_18_30 (Nat.le_of_ble_eq_true rfl) (lv' := [(4, .inl (I 4 ((2 : Int32) * v3).toNatClampNeg)), (0, .inr (.inr (some 101))), (1, .inr (.inr (some 2))), (2, .inl v2), (3, .inl v3)]) rfl ?_
      refine zg_aload_n dd_18_32 rfl (j := 2) rfl ?_
      refine zg_getR dd_18_33 zl_Shape_39 zCs_2 rfl zCr_2_3 ?_
      refine zg_iconst dd_18_36 kI_2 ?_
      refine zg_iload_n dd_18_37 rfl (j := 4) rfl ?_
      refine zg_imul dd_18_38 ?_
      refine zg_iconst dd_18_39 kI_1 ?_
      refine zg_iadd dd_18_40 ?_
      obtain ⟨g5, h⟩ := z_gd h
      refine zg_iald (w := (I 4 (((2 : Int32) * v3) + (1 : Int32)).toNatClampNeg)) dd_18_41 zCs_4 g5 rfl ?_
      refine zg_istore dd_18_42 (Nat.le_of_ble_eq_true rfl) (lv' := [(5, .inl (I 4 (((2 : Int32) * v3) + (1 : Int32)).toNatClampNeg)), (4, .inl (I 4 ((2 : Int32) * v3).toNatClampNeg)), (0, .inr (.inr (some 101))), (1, .inr (.inr (some 2))), (2, .inl v2), (3, .inl v3)]) rfl ?_
      refine zg_aload_n dd_18_44 rfl (j := 3) rfl ?_
      refine zg_getR dd_18_45 zl_Shape_70 zCs_2 rfl zCr_2_4 ?_
      refine zg_iload_n dd_18_48 rfl (j := 5) rfl ?_
      obtain ⟨g6, h⟩ := z_gd h
      refine zg_iald (w := (I 5 v3.toNatClampNeg)) dd_18_49 zCs_5 g6 rfl ?_
      refine zg_iconst dd_18_50 kI_1 ?_
      refine zg_icmp_ne (tgt := 58) dd_18_51 (by decide) (fun q7 => ?_) (fun q7 => ?_)
      · replace h := z_f h q7
        refine zg_iconst dd_18_58 kI_0 ?_
        refine zg_istore dd_18_59 (Nat.le_of_ble_eq_true rfl) (lv' := [(6, .inl (0 : Int32)), (5, .inl (I 4 (((2 : Int32) * v3) + (1 : Int32)).toNatClampNeg)), (4, .inl (I 4 ((2 : Int32) * v3).toNatClampNeg)), (0, .inr (.inr (some 101))), (1, .inr (.inr (some 2))), (2, .inl v2), (3, .inl v3)]) rfl ?_
        refine zg_aload_n dd_18_61 rfl (j := 3) rfl ?_
        refine zg_iload_n dd_18_62 rfl (j := 5) rfl ?_
        refine zg_iload dd_18_63 (j := 2) rfl ?_
        refine zg_iload dd_18_65 (j := 0) rfl ?_
        refine zg_if_eq (tgt := 75) dd_18_67 (by decide) (fun _ => ?_) (fun q8 => absurd q8 (by decide))
        refine zg_iload dd_18_75 (j := 1) rfl ?_
        obtain ⟨r9, e10, h⟩ := z_bd h
        refine zg_invS_i (av := [.inl (I 4 (((2 : Int32) * v3) + (1 : Int32)).toNatClampNeg)]) (st := [.inl (I 4 ((2 : Int32) * v3).toNatClampNeg), .inl v2, .inr (.inr (some 101))]) (n := 1) dd_18_77 ca_20 zw_505 zw_506 (mt_fc_Shape_secondCorner e10) rfl ⟨by decide +kernel, by decide⟩ (Nat.le_of_ble_eq_true rfl) ?_
        obtain ⟨r11, e12, h⟩ := z_bd h
        refine zg_invV_v (av := [.inl v2, .inl (I 4 ((2 : Int32) * v3).toNatClampNeg), .inl r9]) (st := []) (n := 3) dd_18_80 ca_21 zw_508 zw_510 zv_3 zCs_101 zcl_4 rfl (mt_fc_Shape_makeOne e12) rfl ⟨by decide +kernel, by decide⟩ (Nat.le_of_ble_eq_true rfl) ?_
        refine zg_aload_n dd_18_83 rfl (j := 3) rfl ?_
        refine zg_iload_n dd_18_84 rfl (j := 5) rfl ?_
        refine zg_iload dd_18_85 (j := 2) rfl ?_
        obtain ⟨r13, e14, h⟩ := z_bd h
        refine zg_invS_i (av := [.inl (I 4 ((2 : Int32) * v3).toNatClampNeg)]) (st := [.inl v2, .inr (.inr (some 101))]) (n := 1) dd_18_87 ca_20 zw_505 zw_506 (mt_fc_Shape_secondCorner e14) rfl ⟨by decide +kernel, by decide⟩ (Nat.le_of_ble_eq_true rfl) ?_
        refine zg_iload dd_18_90 (j := 0) rfl ?_
        refine zg_if_eq (tgt := 103) dd_18_92 (by decide) (fun _ => ?_) (fun q15 => absurd q15 (by decide))
        refine zg_iload dd_18_103 (j := 1) rfl ?_
        obtain ⟨r16, e17, h⟩ := z_bd h
        refine zg_invV_v (av := [.inl v2, .inl r13, .inl (I 4 (((2 : Int32) * v3) + (1 : Int32)).toNatClampNeg)]) (st := []) (n := 3) dd_18_105 ca_21 zw_508 zw_510 zv_3 zCs_101 zcl_4 rfl (mt_fc_Shape_makeOne e17) rfl ⟨by decide +kernel, by decide⟩ (Nat.le_of_ble_eq_true rfl) ?_
        refine zg_iinc dd_18_108 (j := 6) rfl (v := (v3 + (1 : Int32))) (by rw [kI_1]) (Nat.le_of_ble_eq_true rfl) (lv' := [(3, .inl (v3 + (1 : Int32))), (6, .inl (0 : Int32)), (5, .inl (I 4 (((2 : Int32) * v3) + (1 : Int32)).toNatClampNeg)), (4, .inl (I 4 ((2 : Int32) * v3).toNatClampNeg)), (0, .inr (.inr (some 101))), (1, .inr (.inr (some 2))), (2, .inl v2)]) rfl ?_
        refine zg_goto (tgt := 14) dd_18_111 (by decide) ?_
        refine zg_sub [4, 5, 6, 0] rfl ?_
        exact ih _ _ _ h
      · replace h := z_t h q7
        refine zg_iconst dd_18_54 kI_1 ?_
        refine zg_goto (tgt := 59) dd_18_55 (by decide) ?_
        refine zg_istore dd_18_59 (Nat.le_of_ble_eq_true rfl) (lv' := [(6, .inl (1 : Int32)), (5, .inl (I 4 (((2 : Int32) * v3) + (1 : Int32)).toNatClampNeg)), (4, .inl (I 4 ((2 : Int32) * v3).toNatClampNeg)), (0, .inr (.inr (some 101))), (1, .inr (.inr (some 2))), (2, .inl v2), (3, .inl v3)]) rfl ?_
        refine zg_aload_n dd_18_61 rfl (j := 3) rfl ?_
        refine zg_iload_n dd_18_62 rfl (j := 5) rfl ?_
        refine zg_iload dd_18_63 (j := 2) rfl ?_
        refine zg_iload dd_18_65 (j := 0) rfl ?_
        refine zg_if_eq (tgt := 75) dd_18_67 (by decide) (fun q18 => absurd q18 (by decide)) (fun _ => ?_)
        refine zg_iload dd_18_70 (j := 1) rfl ?_
        refine zg_goto (tgt := 80) dd_18_72 (by decide) ?_
        obtain ⟨r19, e20, h⟩ := z_bd h
        refine zg_invV_v (av := [.inl v2, .inl (I 4 ((2 : Int32) * v3).toNatClampNeg), .inl (I 4 (((2 : Int32) * v3) + (1 : Int32)).toNatClampNeg)]) (st := []) (n := 3) dd_18_80 ca_21 zw_508 zw_510 zv_3 zCs_101 zcl_4 rfl (mt_fc_Shape_makeOne e20) rfl ⟨by decide +kernel, by decide⟩ (Nat.le_of_ble_eq_true rfl) ?_
        refine zg_aload_n dd_18_83 rfl (j := 3) rfl ?_
        refine zg_iload_n dd_18_84 rfl (j := 5) rfl ?_
        refine zg_iload dd_18_85 (j := 2) rfl ?_
        obtain ⟨r21, e22, h⟩ := z_bd h
        refine zg_invS_i (av := [.inl (I 4 ((2 : Int32) * v3).toNatClampNeg)]) (st := [.inl v2, .inr (.inr (some 101))]) (n := 1) dd_18_87 ca_20 zw_505 zw_506 (mt_fc_Shape_secondCorner e22) rfl ⟨by decide +kernel, by decide⟩ (Nat.le_of_ble_eq_true rfl) ?_
        refine zg_iload dd_18_90 (j := 0) rfl ?_
        refine zg_if_eq (tgt := 103) dd_18_92 (by decide) (fun q23 => absurd q23 (by decide)) (fun _ => ?_)
        refine zg_iload dd_18_95 (j := 1) rfl ?_
        obtain ⟨r24, e25, h⟩ := z_bd h
        refine zg_invS_i (av := [.inl (I 4 (((2 : Int32) * v3) + (1 : Int32)).toNatClampNeg)]) (st := [.inl r21, .inl v2, .inr (.inr (some 101))]) (n := 1) dd_18_97 ca_20 zw_505 zw_506 (mt_fc_Shape_secondCorner e25) rfl ⟨by decide +kernel, by decide⟩ (Nat.le_of_ble_eq_true rfl) ?_
        refine zg_goto (tgt := 105) dd_18_100 (by decide) ?_
        obtain ⟨r26, e27, h⟩ := z_bd h
        refine zg_invV_v (av := [.inl v2, .inl r21, .inl r24]) (st := []) (n := 3) dd_18_105 ca_21 zw_508 zw_510 zv_3 zCs_101 zcl_4 rfl (mt_fc_Shape_makeOne e27) rfl ⟨by decide +kernel, by decide⟩ (Nat.le_of_ble_eq_true rfl) ?_
        refine zg_iinc dd_18_108 (j := 6) rfl (v := (v3 + (1 : Int32))) (by rw [kI_1]) (Nat.le_of_ble_eq_true rfl) (lv' := [(3, .inl (v3 + (1 : Int32))), (6, .inl (1 : Int32)), (5, .inl (I 4 (((2 : Int32) * v3) + (1 : Int32)).toNatClampNeg)), (4, .inl (I 4 ((2 : Int32) * v3).toNatClampNeg)), (0, .inr (.inr (some 101))), (1, .inr (.inr (some 2))), (2, .inl v2)]) rfl ?_
        refine zg_goto (tgt := 14) dd_18_111 (by decide) ?_
        refine zg_sub [4, 5, 6, 0] rfl ?_
        exact ih _ _ _ h
set_option maxRecDepth 20000 in
theorem mt_fc_Shape_makeCornersOne {I : zI} {res : zI} (h : fc_Shape_makeCornersOne I = some res) : zM 2 ym_18 [.inr (.inr (some 101)), .inr (.inr (some 2))] (zCs, zCr, I) none (zCs, zCr, res) 0 0 := by
  refine zM_of (by decide) (Nat.le_of_ble_eq_true rfl) (lv := [(0, .inr (.inr (some 101))), (1, .inr (.inr (some 2)))]) rfl ?_
  rw [fc_Shape_makeCornersOne] at h
  refine zg_iconst dd_18_0 kI_4 ?_
  refine zg_aload_n dd_18_1 rfl (j := 1) rfl ?_
  refine zg_getI (x := (I 2 0)) dd_18_2 zl_Shape_22 zCs_2 rfl rfl ?_
  refine zg_imul dd_18_5 ?_
  refine zg_istore_n dd_18_6 rfl (Nat.le_of_ble_eq_true rfl) (lv' := [(2, .inl ((4 : Int32) * (I 2 0))), (0, .inr (.inr (some 101))), (1, .inr (.inr (some 2)))]) rfl ?_
  refine zg_aload_n dd_18_7 rfl (j := 1) rfl ?_
  refine zg_iload_n dd_18_8 rfl (j := 0) rfl ?_
  obtain ⟨r1, e2, h⟩ := z_bd h
  refine zg_invV_v (av := [.inl ((4 : Int32) * (I 2 0))]) (st := []) (n := 1) dd_18_9 ca_19 zw_501 zw_503 zv_2 zCs_101 zcl_4 rfl (mt_fc_Shape_begin e2) rfl ⟨by decide +kernel, by decide⟩ (Nat.le_of_ble_eq_true rfl) ?_
  refine zg_iconst dd_18_12 kI_0 ?_
  refine zg_istore_n dd_18_13 rfl (Nat.le_of_ble_eq_true rfl) (lv' := [(3, .inl (0 : Int32)), (2, .inl ((4 : Int32) * (I 2 0))), (0, .inr (.inr (some 101))), (1, .inr (.inr (some 2)))]) rfl ?_
  refine zg_sub [2, 3, 1, 0] rfl ?_
  refine lt_fc_Shape_makeCornersOne_L14  _ _ _ _ h
/-! TurnedLand$Shape.labelsLeft[101, None] -/
def fc_Shape_labelsLeft_L4 (I : zI) : Nat → Int32 → Int32 → Int32 → Option Int32
  | 0, _, _, _ => none
  | nf + 1, v1, v2, v3 =>
    if v1 ≤ v3 then
      some v2
    else
      z_guard (zb v3 32) <|
      if (I 102 v3.toNatClampNeg) = v3 then
        fc_Shape_labelsLeft_L4 I nf v1 (v2 + (1 : Int32)) (v3 + (1 : Int32))
      else
        fc_Shape_labelsLeft_L4 I nf v1 v2 (v3 + (1 : Int32))
def fc_Shape_labelsLeft (I : zI) (a1 : Int32) : Option Int32 :=
  fc_Shape_labelsLeft_L4 I
    100 a1 (0 : Int32) (0 : Int32)
set_option maxRecDepth 20000 in
theorem lt_fc_Shape_labelsLeft_L4 {res : Int32} {I : zI} : ∀ (nf : Nat) (v1 : Int32) (v2 : Int32) (v3 : Int32), fc_Shape_labelsLeft_L4 I nf v1 v2 v3 = some res → zG 1 ym_22 0 0 (some (.inl res)) (zCs, zCr, I) zCs.length 4 [(0, .inr (.inr (some 101))), (1, .inl v1), (2, .inl v2), (3, .inl v3)] [] (zCs, zCr, I) 0 0 := by
  intro nf
  induction nf with
  | zero =>
    intro v1 v2 v3 h
    have h2 : none = some res := h
    cases h2
  | succ nf ih =>
    intro v1 v2 v3 h
    rw [fc_Shape_labelsLeft_L4] at h
    refine zg_iload_n dd_22_4 rfl (j := 3) rfl ?_
    refine zg_iload_n dd_22_5 rfl (j := 1) rfl ?_
    refine zg_icmp_ge (tgt := 28) dd_22_6 (by decide) (fun q1 => ?_) (fun q1 => ?_)
    · replace h := z_t h q1
      refine zg_iload_n dd_22_28 rfl (j := 2) rfl ?_
      obtain rfl := Option.some.inj h
      exact zg_iret dd_22_29 rfl
    · replace h := z_f h q1
      refine zg_aload_n dd_22_9 rfl (j := 0) rfl ?_
      refine zg_getR dd_22_10 zl_Shape_9 zCs_101 rfl zCr_101_0 ?_
      refine zg_iload_n dd_22_13 rfl (j := 3) rfl ?_
      obtain ⟨g2, h⟩ := z_gd h
      refine zg_iald (w := (I 102 v3.toNatClampNeg)) dd_22_14 zCs_102 g2 rfl ?_
      refine zg_iload_n dd_22_15 rfl (j := 3) rfl ?_
      refine zg_icmp_ne (tgt := 22) dd_22_16 (by decide) (fun q3 => ?_) (fun q3 => ?_)
      · replace h := z_f h q3
        refine zg_iinc dd_22_22 (j := 3) rfl (v := (v3 + (1 : Int32))) (by rw [kI_1]) (Nat.le_of_ble_eq_true rfl) (lv' := [(3, .inl (v3 + (1 : Int32))), (0, .inr (.inr (some 101))), (1, .inl v1), (2, .inl v2)]) rfl ?_
        refine zg_goto (tgt := 4) dd_22_25 (by decide) ?_
        refine zg_sub [1, 2, 3, 0] rfl ?_
        exact ih _ _ _ h
      · replace h := z_t h q3
        refine zg_iinc dd_22_19 (j := 2) rfl (v := (v2 + (1 : Int32))) (by rw [kI_1]) (Nat.le_of_ble_eq_true rfl) (lv' := [(2, .inl (v2 + (1 : Int32))), (0, .inr (.inr (some 101))), (1, .inl v1), (3, .inl v3)]) rfl ?_
        refine zg_iinc dd_22_22 (j := 3) rfl (v := (v3 + (1 : Int32))) (by rw [kI_1]) (Nat.le_of_ble_eq_true rfl) (lv' := [(3, .inl (v3 + (1 : Int32))), (2, .inl (v2 + (1 : Int32))), (0, .inr (.inr (some 101))), (1, .inl v1)]) rfl ?_
        refine zg_goto (tgt := 4) dd_22_25 (by decide) ?_
        refine zg_sub [2, 3, 1, 0] rfl ?_
        exact ih _ _ _ h
set_option maxRecDepth 20000 in
theorem mt_fc_Shape_labelsLeft {I : zI} {a1 : Int32} {res : Int32} (h : fc_Shape_labelsLeft I a1 = some res) : zM 1 ym_22 [.inr (.inr (some 101)), .inl a1] (zCs, zCr, I) (some (.inl res)) (zCs, zCr, I) 0 0 := by
  refine zM_of (by decide) (Nat.le_of_ble_eq_true rfl) (lv := [(0, .inr (.inr (some 101))), (1, .inl a1)]) rfl ?_
  rw [fc_Shape_labelsLeft] at h
  refine zg_iconst dd_22_0 kI_0 ?_
  refine zg_istore_n dd_22_1 rfl (Nat.le_of_ble_eq_true rfl) (lv' := [(2, .inl (0 : Int32)), (0, .inr (.inr (some 101))), (1, .inl a1)]) rfl ?_
  refine zg_iconst dd_22_2 kI_0 ?_
  refine zg_istore_n dd_22_3 rfl (Nat.le_of_ble_eq_true rfl) (lv' := [(3, .inl (0 : Int32)), (2, .inl (0 : Int32)), (0, .inr (.inr (some 101))), (1, .inl a1)]) rfl ?_
  refine zg_sub [2, 3, 1, 0] rfl ?_
  refine lt_fc_Shape_labelsLeft_L4  _ _ _ _ h
/-! TurnedLand$Shape.corners[101, 2] -/
def fc_Shape_corners (I : zI) : Option (Int32 × zI) :=
  (fc_Shape_makeCornersOne I).bind fun r1 =>
  (fc_Shape_labelsLeft r1 ((4 : Int32) * (r1 2 0))).bind fun r3 =>
  some (r3, r1)
set_option maxRecDepth 20000 in
theorem mt_fc_Shape_corners {I : zI} {res : (Int32 × zI)} (h : fc_Shape_corners I = some res) : zM 3 ym_17 [.inr (.inr (some 101)), .inr (.inr (some 2))] (zCs, zCr, I) (some (.inl res.1)) (zCs, zCr, res.2) 0 0 := by
  refine zM_of (by decide) (Nat.le_of_ble_eq_true rfl) (lv := [(0, .inr (.inr (some 101))), (1, .inr (.inr (some 2)))]) rfl ?_
  rw [fc_Shape_corners] at h
  refine zg_aload_n dd_17_0 rfl (j := 0) rfl ?_
  refine zg_aload_n dd_17_1 rfl (j := 1) rfl ?_
  obtain ⟨r1, e2, h⟩ := z_bd h
  refine zg_invV_v (av := [.inr (.inr (some 2))]) (st := []) (n := 1) dd_17_2 ca_18 zw_497 zw_499 zv_1 zCs_101 zcl_4 rfl (mt_fc_Shape_makeCornersOne e2) rfl ⟨by decide +kernel, by decide⟩ (Nat.le_of_ble_eq_true rfl) ?_
  refine zg_aload_n dd_17_5 rfl (j := 0) rfl ?_
  refine zg_iconst dd_17_6 kI_4 ?_
  refine zg_aload_n dd_17_7 rfl (j := 1) rfl ?_
  refine zg_getI (x := (r1 2 0)) dd_17_8 zl_Shape_22 zCs_2 rfl rfl ?_
  refine zg_imul dd_17_11 ?_
  obtain ⟨r3, e4, h⟩ := z_bd h
  refine zg_invV_i (av := [.inl ((4 : Int32) * (r1 2 0))]) (st := []) (n := 1) dd_17_12 ca_22 zw_512 zw_514 zv_4 zCs_101 zcl_4 rfl (mt_fc_Shape_labelsLeft e4) rfl ⟨by decide +kernel, by decide⟩ (Nat.le_of_ble_eq_true rfl) ?_
  obtain rfl := Option.some.inj h
  exact zg_iret dd_17_15 rfl
/-! TurnedLand.edgesOnce[2] -/
def fc_T_edgesOnce (I : zI) : Option Int32 :=
  some (((4 : Int32) * (I 2 0)) - (I 2 2))
set_option maxRecDepth 20000 in
theorem mt_fc_T_edgesOnce {I : zI} {res : Int32} (h : fc_T_edgesOnce I = some res) : zM 1 ym_23 [.inr (.inr (some 2))] (zCs, zCr, I) (some (.inl res)) (zCs, zCr, I) 0 0 := by
  refine zM_of (by decide) (Nat.le_of_ble_eq_true rfl) (lv := [(0, .inr (.inr (some 2)))]) rfl ?_
  rw [fc_T_edgesOnce] at h
  refine zg_iconst dd_23_0 kI_4 ?_
  refine zg_aload_n dd_23_1 rfl (j := 0) rfl ?_
  refine zg_getI (x := (I 2 0)) dd_23_2 zl_T_88 zCs_2 rfl rfl ?_
  refine zg_imul dd_23_5 ?_
  refine zg_aload_n dd_23_6 rfl (j := 0) rfl ?_
  refine zg_getI (x := (I 2 2)) dd_23_7 zl_T_116 zCs_2 rfl rfl ?_
  refine zg_isub dd_23_10 ?_
  obtain rfl := Option.some.inj h
  exact zg_iret dd_23_11 rfl
/-! TurnedLand$Shape.parts[101, 2] -/
def fc_Shape_parts_L10 : Nat → Int32 → zI → Option (Int32 × zI)
  | 0, _, _ => none
  | nf + 1, v2, I =>
    if (I 2 2) ≤ v2 then
      (fc_Shape_labelsLeft I (I 2 0)).bind fun r4 =>
      some (r4, I)
    else
      z_guard (zb ((2 : Int32) * v2) 32) <|
      z_guard (zb (((2 : Int32) * v2) + (1 : Int32)) 32) <|
      (fc_Shape_makeOne I (I 2 0) ((I 4 ((2 : Int32) * v2).toNatClampNeg) / (4 : Int32)) ((I 4 (((2 : Int32) * v2) + (1 : Int32)).toNatClampNeg) / (4 : Int32))).bind fun r8 =>
      fc_Shape_parts_L10 nf (v2 + (1 : Int32)) r8
def fc_Shape_parts (I : zI) : Option (Int32 × zI) :=
  (fc_Shape_begin I (I 2 0)).bind fun r1 =>
  fc_Shape_parts_L10
    100 (0 : Int32) r1
set_option maxRecDepth 20000 in
theorem lt_fc_Shape_parts_L10 {res : (Int32 × zI)} : ∀ (nf : Nat) (v2 : Int32) (I : zI), fc_Shape_parts_L10 nf v2 I = some res → zG 2 ym_24 0 0 (some (.inl res.1)) (zCs, zCr, res.2) zCs.length 10 [(0, .inr (.inr (some 101))), (1, .inr (.inr (some 2))), (2, .inl v2)] [] (zCs, zCr, I) 0 0 := by
  intro nf
  induction nf with
  | zero =>
    intro v2 I h
    have h2 : none = some res := h
    cases h2
  | succ nf ih =>
    intro v2 I h
    rw [fc_Shape_parts_L10] at h
    refine zg_iload_n dd_24_10 rfl (j := 2) rfl ?_
    refine zg_aload_n dd_24_11 rfl (j := 1) rfl ?_
    refine zg_getI (x := (I 2 2)) dd_24_12 zl_Shape_36 zCs_2 rfl rfl ?_
    refine zg_icmp_ge (tgt := 54) dd_24_15 (by decide) (fun q3 => ?_) (fun q3 => ?_)
    · replace h := z_t h q3
      refine zg_aload_n dd_24_54 rfl (j := 0) rfl ?_
      refine zg_aload_n dd_24_55 rfl (j := 1) rfl ?_
      refine zg_getI (x := (I 2 0)) dd_24_56 zl_Shape_22 zCs_2 rfl rfl ?_
      obtain ⟨r4, e5, h⟩ := z_bd h
      refine zg_invV_i (av := [.inl (I 2 0)]) (st := []) (n := 1) dd_24_59 ca_22 zw_512 zw_514 zv_4 zCs_101 zcl_4 rfl (mt_fc_Shape_labelsLeft e5) rfl ⟨by decide +kernel, by decide⟩ (Nat.le_of_ble_eq_true rfl) ?_
      obtain rfl := Option.some.inj h
      exact zg_iret dd_24_62 rfl
    · replace h := z_f h q3
      refine zg_aload_n dd_24_18 rfl (j := 0) rfl ?_
      refine zg_aload_n dd_24_19 rfl (j := 1) rfl ?_
      refine zg_getI (x := (I 2 0)) dd_24_20 zl_Shape_22 zCs_2 rfl rfl ?_
      refine zg_aload_n dd_24_23 rfl (j := 1) rfl ?_
      refine zg_getR dd_24_24 zl_Shape_39 zCs_2 rfl zCr_2_3 ?_
      refine zg_iconst dd_24_27 kI_2 ?_
      refine zg_iload_n dd_24_28 rfl (j := 2) rfl ?_
      refine zg_imul dd_24_29 ?_
      obtain ⟨g6, h⟩ := z_gd h
      refine zg_iald (w := (I 4 ((2 : Int32) * v2).toNatClampNeg)) dd_24_30 zCs_4 g6 rfl ?_
      refine zg_iconst dd_24_31 kI_4 ?_
      refine zg_idiv dd_24_32 (by decide) ?_
      refine zg_aload_n dd_24_33 rfl (j := 1) rfl ?_
      refine zg_getR dd_24_34 zl_Shape_39 zCs_2 rfl zCr_2_3 ?_
      refine zg_iconst dd_24_37 kI_2 ?_
      refine zg_iload_n dd_24_38 rfl (j := 2) rfl ?_
      refine zg_imul dd_24_39 ?_
      refine zg_iconst dd_24_40 kI_1 ?_
      refine zg_iadd dd_24_41 ?_
      obtain ⟨g7, h⟩ := z_gd h
      refine zg_iald (w := (I 4 (((2 : Int32) * v2) + (1 : Int32)).toNatClampNeg)) dd_24_42 zCs_4 g7 rfl ?_
      refine zg_iconst dd_24_43 kI_4 ?_
      refine zg_idiv dd_24_44 (by decide) ?_
      obtain ⟨r8, e9, h⟩ := z_bd h
      refine zg_invV_v (av := [.inl (I 2 0), .inl ((I 4 ((2 : Int32) * v2).toNatClampNeg) / (4 : Int32)), .inl ((I 4 (((2 : Int32) * v2) + (1 : Int32)).toNatClampNeg) / (4 : Int32))]) (st := []) (n := 3) dd_24_45 ca_21 zw_508 zw_510 zv_3 zCs_101 zcl_4 rfl (mt_fc_Shape_makeOne e9) rfl ⟨by decide +kernel, by decide⟩ (Nat.le_of_ble_eq_true rfl) ?_
      refine zg_iinc dd_24_48 (j := 2) rfl (v := (v2 + (1 : Int32))) (by rw [kI_1]) (Nat.le_of_ble_eq_true rfl) (lv' := [(2, .inl (v2 + (1 : Int32))), (0, .inr (.inr (some 101))), (1, .inr (.inr (some 2)))]) rfl ?_
      refine zg_goto (tgt := 10) dd_24_51 (by decide) ?_
      refine zg_sub [1, 2, 0] rfl ?_
      exact ih _ _ h
set_option maxRecDepth 20000 in
theorem mt_fc_Shape_parts {I : zI} {res : (Int32 × zI)} (h : fc_Shape_parts I = some res) : zM 2 ym_24 [.inr (.inr (some 101)), .inr (.inr (some 2))] (zCs, zCr, I) (some (.inl res.1)) (zCs, zCr, res.2) 0 0 := by
  refine zM_of (by decide) (Nat.le_of_ble_eq_true rfl) (lv := [(0, .inr (.inr (some 101))), (1, .inr (.inr (some 2)))]) rfl ?_
  rw [fc_Shape_parts] at h
  refine zg_aload_n dd_24_0 rfl (j := 0) rfl ?_
  refine zg_aload_n dd_24_1 rfl (j := 1) rfl ?_
  refine zg_getI (x := (I 2 0)) dd_24_2 zl_Shape_22 zCs_2 rfl rfl ?_
  obtain ⟨r1, e2, h⟩ := z_bd h
  refine zg_invV_v (av := [.inl (I 2 0)]) (st := []) (n := 1) dd_24_5 ca_19 zw_501 zw_503 zv_2 zCs_101 zcl_4 rfl (mt_fc_Shape_begin e2) rfl ⟨by decide +kernel, by decide⟩ (Nat.le_of_ble_eq_true rfl) ?_
  refine zg_iconst dd_24_8 kI_0 ?_
  refine zg_istore_n dd_24_9 rfl (Nat.le_of_ble_eq_true rfl) (lv' := [(2, .inl (0 : Int32)), (0, .inr (.inr (some 101))), (1, .inr (.inr (some 2)))]) rfl ?_
  refine zg_sub [1, 2, 0] rfl ?_
  refine lt_fc_Shape_parts_L10  _ _ _ h
/-! java/lang/Integer.bitCount[None] -/
def fc_JInteger_bitCount (I : zI) (a0 : Int32) : Option Int32 :=
  some ((((((((a0 - ((zush a0 (1 : Int32)) &&& (1431655765 : Int32))) &&& (858993459 : Int32)) + ((zush (a0 - ((zush a0 (1 : Int32)) &&& (1431655765 : Int32))) (2 : Int32)) &&& (858993459 : Int32))) + (zush (((a0 - ((zush a0 (1 : Int32)) &&& (1431655765 : Int32))) &&& (858993459 : Int32)) + ((zush (a0 - ((zush a0 (1 : Int32)) &&& (1431655765 : Int32))) (2 : Int32)) &&& (858993459 : Int32))) (4 : Int32))) &&& (252645135 : Int32)) + (zush (((((a0 - ((zush a0 (1 : Int32)) &&& (1431655765 : Int32))) &&& (858993459 : Int32)) + ((zush (a0 - ((zush a0 (1 : Int32)) &&& (1431655765 : Int32))) (2 : Int32)) &&& (858993459 : Int32))) + (zush (((a0 - ((zush a0 (1 : Int32)) &&& (1431655765 : Int32))) &&& (858993459 : Int32)) + ((zush (a0 - ((zush a0 (1 : Int32)) &&& (1431655765 : Int32))) (2 : Int32)) &&& (858993459 : Int32))) (4 : Int32))) &&& (252645135 : Int32)) (8 : Int32))) + (zush ((((((a0 - ((zush a0 (1 : Int32)) &&& (1431655765 : Int32))) &&& (858993459 : Int32)) + ((zush (a0 - ((zush a0 (1 : Int32)) &&& (1431655765 : Int32))) (2 : Int32)) &&& (858993459 : Int32))) + (zush (((a0 - ((zush a0 (1 : Int32)) &&& (1431655765 : Int32))) &&& (858993459 : Int32)) + ((zush (a0 - ((zush a0 (1 : Int32)) &&& (1431655765 : Int32))) (2 : Int32)) &&& (858993459 : Int32))) (4 : Int32))) &&& (252645135 : Int32)) + (zush (((((a0 - ((zush a0 (1 : Int32)) &&& (1431655765 : Int32))) &&& (858993459 : Int32)) + ((zush (a0 - ((zush a0 (1 : Int32)) &&& (1431655765 : Int32))) (2 : Int32)) &&& (858993459 : Int32))) + (zush (((a0 - ((zush a0 (1 : Int32)) &&& (1431655765 : Int32))) &&& (858993459 : Int32)) + ((zush (a0 - ((zush a0 (1 : Int32)) &&& (1431655765 : Int32))) (2 : Int32)) &&& (858993459 : Int32))) (4 : Int32))) &&& (252645135 : Int32)) (8 : Int32))) (16 : Int32))) &&& (63 : Int32))
set_option maxRecDepth 20000 in
theorem mt_fc_JInteger_bitCount {I : zI} {a0 : Int32} {res : Int32} (h : fc_JInteger_bitCount I a0 = some res) : zM 1 ym_26 [.inl a0] (zCs, zCr, I) (some (.inl res)) (zCs, zCr, I) 0 0 := by
  refine zM_of (by decide) (Nat.le_of_ble_eq_true rfl) (lv := [(0, .inl a0)]) rfl ?_
  rw [fc_JInteger_bitCount] at h
  refine zg_iload_n dd_26_0 rfl (j := 0) rfl ?_
  refine zg_iload_n dd_26_1 rfl (j := 0) rfl ?_
  refine zg_iconst dd_26_2 kI_1 ?_
  refine zg_iushr dd_26_3 ?_
  refine zg_ldcw dd_26_4 zw_530 ?_
  refine zg_iand dd_26_7 ?_
  refine zg_isub dd_26_8 ?_
  refine zg_istore_n dd_26_9 rfl (Nat.le_of_ble_eq_true rfl) (lv' := [(0, .inl (a0 - ((zush a0 (1 : Int32)) &&& (1431655765 : Int32))))]) rfl ?_
  refine zg_iload_n dd_26_10 rfl (j := 0) rfl ?_
  refine zg_ldcw dd_26_11 zw_531 ?_
  refine zg_iand dd_26_14 ?_
  refine zg_iload_n dd_26_15 rfl (j := 0) rfl ?_
  refine zg_iconst dd_26_16 kI_2 ?_
  refine zg_iushr dd_26_17 ?_
  refine zg_ldcw dd_26_18 zw_531 ?_
  refine zg_iand dd_26_21 ?_
  refine zg_iadd dd_26_22 ?_
  refine zg_istore_n dd_26_23 rfl (Nat.le_of_ble_eq_true rfl) (lv' := [(0, .inl (((a0 - ((zush a0 (1 : Int32)) &&& (1431655765 : Int32))) &&& (858993459 : Int32)) + ((zush (a0 - ((zush a0 (1 : Int32)) &&& (1431655765 : Int32))) (2 : Int32)) &&& (858993459 : Int32))))]) rfl ?_
  refine zg_iload_n dd_26_24 rfl (j := 0) rfl ?_
  refine zg_iload_n dd_26_25 rfl (j := 0) rfl ?_
  refine zg_iconst dd_26_26 kI_4 ?_
  refine zg_iushr dd_26_27 ?_
  refine zg_iadd dd_26_28 ?_
  refine zg_ldcw dd_26_29 zw_532 ?_
  refine zg_iand dd_26_32 ?_
  refine zg_istore_n dd_26_33 rfl (Nat.le_of_ble_eq_true rfl) (lv' := [(0, .inl (((((a0 - ((zush a0 (1 : Int32)) &&& (1431655765 : Int32))) &&& (858993459 : Int32)) + ((zush (a0 - ((zush a0 (1 : Int32)) &&& (1431655765 : Int32))) (2 : Int32)) &&& (858993459 : Int32))) + (zush (((a0 - ((zush a0 (1 : Int32)) &&& (1431655765 : Int32))) &&& (858993459 : Int32)) + ((zush (a0 - ((zush a0 (1 : Int32)) &&& (1431655765 : Int32))) (2 : Int32)) &&& (858993459 : Int32))) (4 : Int32))) &&& (252645135 : Int32)))]) rfl ?_
  refine zg_iload_n dd_26_34 rfl (j := 0) rfl ?_
  refine zg_iload_n dd_26_35 rfl (j := 0) rfl ?_
  refine zg_bipush dd_26_36 kB_8 ?_
  refine zg_iushr dd_26_38 ?_
  refine zg_iadd dd_26_39 ?_
  refine zg_istore_n dd_26_40 rfl (Nat.le_of_ble_eq_true rfl) (lv' := [(0, .inl ((((((a0 - ((zush a0 (1 : Int32)) &&& (1431655765 : Int32))) &&& (858993459 : Int32)) + ((zush (a0 - ((zush a0 (1 : Int32)) &&& (1431655765 : Int32))) (2 : Int32)) &&& (858993459 : Int32))) + (zush (((a0 - ((zush a0 (1 : Int32)) &&& (1431655765 : Int32))) &&& (858993459 : Int32)) + ((zush (a0 - ((zush a0 (1 : Int32)) &&& (1431655765 : Int32))) (2 : Int32)) &&& (858993459 : Int32))) (4 : Int32))) &&& (252645135 : Int32)) + (zush (((((a0 - ((zush a0 (1 : Int32)) &&& (1431655765 : Int32))) &&& (858993459 : Int32)) + ((zush (a0 - ((zush a0 (1 : Int32)) &&& (1431655765 : Int32))) (2 : Int32)) &&& (858993459 : Int32))) + (zush (((a0 - ((zush a0 (1 : Int32)) &&& (1431655765 : Int32))) &&& (858993459 : Int32)) + ((zush (a0 - ((zush a0 (1 : Int32)) &&& (1431655765 : Int32))) (2 : Int32)) &&& (858993459 : Int32))) (4 : Int32))) &&& (252645135 : Int32)) (8 : Int32))))]) rfl ?_
  refine zg_iload_n dd_26_41 rfl (j := 0) rfl ?_
  refine zg_iload_n dd_26_42 rfl (j := 0) rfl ?_
  refine zg_bipush dd_26_43 kB_16 ?_
  refine zg_iushr dd_26_45 ?_
  refine zg_iadd dd_26_46 ?_
  refine zg_istore_n dd_26_47 rfl (Nat.le_of_ble_eq_true rfl) (lv' := [(0, .inl (((((((a0 - ((zush a0 (1 : Int32)) &&& (1431655765 : Int32))) &&& (858993459 : Int32)) + ((zush (a0 - ((zush a0 (1 : Int32)) &&& (1431655765 : Int32))) (2 : Int32)) &&& (858993459 : Int32))) + (zush (((a0 - ((zush a0 (1 : Int32)) &&& (1431655765 : Int32))) &&& (858993459 : Int32)) + ((zush (a0 - ((zush a0 (1 : Int32)) &&& (1431655765 : Int32))) (2 : Int32)) &&& (858993459 : Int32))) (4 : Int32))) &&& (252645135 : Int32)) + (zush (((((a0 - ((zush a0 (1 : Int32)) &&& (1431655765 : Int32))) &&& (858993459 : Int32)) + ((zush (a0 - ((zush a0 (1 : Int32)) &&& (1431655765 : Int32))) (2 : Int32)) &&& (858993459 : Int32))) + (zush (((a0 - ((zush a0 (1 : Int32)) &&& (1431655765 : Int32))) &&& (858993459 : Int32)) + ((zush (a0 - ((zush a0 (1 : Int32)) &&& (1431655765 : Int32))) (2 : Int32)) &&& (858993459 : Int32))) (4 : Int32))) &&& (252645135 : Int32)) (8 : Int32))) + (zush ((((((a0 - ((zush a0 (1 : Int32)) &&& (1431655765 : Int32))) &&& (858993459 : Int32)) + ((zush (a0 - ((zush a0 (1 : Int32)) &&& (1431655765 : Int32))) (2 : Int32)) &&& (858993459 : Int32))) + (zush (((a0 - ((zush a0 (1 : Int32)) &&& (1431655765 : Int32))) &&& (858993459 : Int32)) + ((zush (a0 - ((zush a0 (1 : Int32)) &&& (1431655765 : Int32))) (2 : Int32)) &&& (858993459 : Int32))) (4 : Int32))) &&& (252645135 : Int32)) + (zush (((((a0 - ((zush a0 (1 : Int32)) &&& (1431655765 : Int32))) &&& (858993459 : Int32)) + ((zush (a0 - ((zush a0 (1 : Int32)) &&& (1431655765 : Int32))) (2 : Int32)) &&& (858993459 : Int32))) + (zush (((a0 - ((zush a0 (1 : Int32)) &&& (1431655765 : Int32))) &&& (858993459 : Int32)) + ((zush (a0 - ((zush a0 (1 : Int32)) &&& (1431655765 : Int32))) (2 : Int32)) &&& (858993459 : Int32))) (4 : Int32))) &&& (252645135 : Int32)) (8 : Int32))) (16 : Int32))))]) rfl ?_
  refine zg_iload_n dd_26_48 rfl (j := 0) rfl ?_
  refine zg_bipush dd_26_49 kB_63 ?_
  refine zg_iand dd_26_51 ?_
  obtain rfl := Option.some.inj h
  exact zg_iret dd_26_52 rfl
/-! TurnedLand$Shape.rims[101, 2] -/
def fc_Shape_rims_L50 : Nat → Int32 → Int32 → Int32 → zI → Option (Int32 × zI)
  | 0, _, _, _, _ => none
  | nf + 1, v2, v3, v4, I =>
    if v2 ≤ v4 then
      (fc_JInteger_bitCount I v3).bind fun r5 =>
      some (r5, I)
    else
      z_guard (zb v4 32) <|
      if (I 6 v4.toNatClampNeg) = (-1 : Int32) then
        fc_Shape_rims_L50 nf v2 (v3 ||| ((1 : Int32) <<< ((I 102 v4.toNatClampNeg) &&& 31))) (v4 + (1 : Int32)) I
      else
        fc_Shape_rims_L50 nf v2 v3 (v4 + (1 : Int32)) I
def fc_Shape_rims_L14 : Nat → Int32 → Int32 → zI → Option (Int32 × zI)
  | 0, _, _, _ => none
  | nf + 1, v2, v3, I =>
    if v2 ≤ v3 then
      fc_Shape_rims_L50
        100 v2 (0 : Int32) (0 : Int32) I
    else
      z_guard (zb v3 32) <|
      if (I 6 v3.toNatClampNeg) = (-1 : Int32) then
        (fc_Shape_secondCorner I v3).bind fun r11 =>
        (fc_Shape_makeOne I v2 v3 r11).bind fun r13 =>
        fc_Shape_rims_L14 nf v2 (v3 + (1 : Int32)) r13
      else
        fc_Shape_rims_L14 nf v2 (v3 + (1 : Int32)) I
def fc_Shape_rims (I : zI) : Option (Int32 × zI) :=
  (fc_Shape_makeCornersOne I).bind fun r1 =>
  fc_Shape_rims_L14
    100 ((4 : Int32) * (I 2 0)) (0 : Int32) r1
set_option maxRecDepth 20000 in
theorem lt_fc_Shape_rims_L50 {res : (Int32 × zI)} : ∀ (nf : Nat) (v2 : Int32) (v3 : Int32) (v4 : Int32) (I : zI), fc_Shape_rims_L50 nf v2 v3 v4 I = some res → zG 3 ym_25 0 0 (some (.inl res.1)) (zCs, zCr, res.2) zCs.length 50 [(0, .inr (.inr (some 101))), (1, .inr (.inr (some 2))), (2, .inl v2), (3, .inl v3), (4, .inl v4)] [] (zCs, zCr, I) 0 0 := by
  intro nf
  induction nf with
  | zero =>
    intro v2 v3 v4 I h
    have h2 : none = some res := h
    cases h2
  | succ nf ih =>
    intro v2 v3 v4 I h
    rw [fc_Shape_rims_L50] at h
    refine zg_iload dd_25_50 (j := 4) rfl ?_
    refine zg_iload_n dd_25_52 rfl (j := 2) rfl ?_
    refine zg_icmp_ge (tgt := 85) dd_25_53 (by decide) (fun q4 => ?_) (fun q4 => ?_)
    · replace h := z_t h q4
      refine zg_iload_n dd_25_85 rfl (j := 3) rfl ?_
      obtain ⟨r5, e6, h⟩ := z_bd h
      refine zg_invS_i (av := [.inl v3]) (st := []) (n := 1) dd_25_86 ca_26 zw_527 zw_528 (mt_fc_JInteger_bitCount e6) rfl ⟨by decide +kernel, by decide⟩ (Nat.le_of_ble_eq_true rfl) ?_
      obtain rfl := Option.some.inj h
      exact zg_iret dd_25_89 rfl
    · replace h := z_f h q4
      refine zg_aload_n dd_25_56 rfl (j := 1) rfl ?_
      refine zg_getR dd_25_57 zl_Shape_46 zCs_2 rfl zCr_2_5 ?_
      refine zg_iload dd_25_60 (j := 4) rfl ?_
      obtain ⟨g7, h⟩ := z_gd h
      refine zg_iald (w := (I 6 v4.toNatClampNeg)) dd_25_62 zCs_6 g7 rfl ?_
      refine zg_iconst dd_25_63 kI_m1 ?_
      refine zg_icmp_ne (tgt := 79) dd_25_64 (by decide) (fun q8 => ?_) (fun q8 => ?_)
      · replace h := z_f h q8
        refine zg_iinc dd_25_79 (j := 4) rfl (v := (v4 + (1 : Int32))) (by rw [kI_1]) (Nat.le_of_ble_eq_true rfl) (lv' := [(4, .inl (v4 + (1 : Int32))), (0, .inr (.inr (some 101))), (1, .inr (.inr (some 2))), (2, .inl v2), (3, .inl v3)]) rfl ?_
        refine zg_goto (tgt := 50) dd_25_82 (by decide) ?_
        refine zg_sub [1, 2, 3, 4, 0] rfl ?_
        exact ih _ _ _ _ h
      · replace h := z_t h q8
        refine zg_iload_n dd_25_67 rfl (j := 3) rfl ?_
        refine zg_iconst dd_25_68 kI_1 ?_
        refine zg_aload_n dd_25_69 rfl (j := 0) rfl ?_
        refine zg_getR dd_25_70 zl_Shape_9 zCs_101 rfl zCr_101_0 ?_
        refine zg_iload dd_25_73 (j := 4) rfl ?_
        refine zg_iald (w := (I 102 v4.toNatClampNeg)) dd_25_75 zCs_102 g7 rfl ?_
        refine zg_ishl dd_25_76 ?_
        refine zg_ior dd_25_77 ?_
        refine zg_istore_n dd_25_78 rfl (Nat.le_of_ble_eq_true rfl) (lv' := [(3, .inl (v3 ||| ((1 : Int32) <<< ((I 102 v4.toNatClampNeg) &&& 31)))), (0, .inr (.inr (some 101))), (1, .inr (.inr (some 2))), (2, .inl v2), (4, .inl v4)]) rfl ?_
        refine zg_iinc dd_25_79 (j := 4) rfl (v := (v4 + (1 : Int32))) (by rw [kI_1]) (Nat.le_of_ble_eq_true rfl) (lv' := [(4, .inl (v4 + (1 : Int32))), (3, .inl (v3 ||| ((1 : Int32) <<< ((I 102 v4.toNatClampNeg) &&& 31)))), (0, .inr (.inr (some 101))), (1, .inr (.inr (some 2))), (2, .inl v2)]) rfl ?_
        refine zg_goto (tgt := 50) dd_25_82 (by decide) ?_
        refine zg_sub [2, 3, 4, 1, 0] rfl ?_
        exact ih _ _ _ _ h
set_option maxRecDepth 20000 in
theorem lt_fc_Shape_rims_L14 {res : (Int32 × zI)} : ∀ (nf : Nat) (v2 : Int32) (v3 : Int32) (I : zI), fc_Shape_rims_L14 nf v2 v3 I = some res → zG 3 ym_25 0 0 (some (.inl res.1)) (zCs, zCr, res.2) zCs.length 14 [(0, .inr (.inr (some 101))), (1, .inr (.inr (some 2))), (2, .inl v2), (3, .inl v3)] [] (zCs, zCr, I) 0 0 := by
  intro nf
  induction nf with
  | zero =>
    intro v2 v3 I h
    have h2 : none = some res := h
    cases h2
  | succ nf ih =>
    intro v2 v3 I h
    rw [fc_Shape_rims_L14] at h
    refine zg_iload_n dd_25_14 rfl (j := 3) rfl ?_
    refine zg_iload_n dd_25_15 rfl (j := 2) rfl ?_
    refine zg_icmp_ge (tgt := 45) dd_25_16 (by decide) (fun q3 => ?_) (fun q3 => ?_)
    · replace h := z_t h q3
      refine zg_iconst dd_25_45 kI_0 ?_
      refine zg_istore_n dd_25_46 rfl (Nat.le_of_ble_eq_true rfl) (lv' := [(3, .inl (0 : Int32)), (0, .inr (.inr (some 101))), (1, .inr (.inr (some 2))), (2, .inl v2)]) rfl ?_
      refine zg_iconst dd_25_47 kI_0 ?_
      refine zg_istore dd_25_48 (Nat.le_of_ble_eq_true rfl) (lv' := [(4, .inl (0 : Int32)), (3, .inl (0 : Int32)), (0, .inr (.inr (some 101))), (1, .inr (.inr (some 2))), (2, .inl v2)]) rfl ?_
      refine zg_sub [2, 3, 4, 1, 0] rfl ?_
      refine lt_fc_Shape_rims_L50  _ _ _ _ _ h
    · replace h := z_f h q3
      refine zg_aload_n dd_25_19 rfl (j := 1) rfl ?_
      refine zg_getR dd_25_20 zl_Shape_46 zCs_2 rfl zCr_2_5 ?_
      refine zg_iload_n dd_25_23 rfl (j := 3) rfl ?_
      obtain ⟨g9, h⟩ := z_gd h
      refine zg_iald (w := (I 6 v3.toNatClampNeg)) dd_25_24 zCs_6 g9 rfl ?_
      refine zg_iconst dd_25_25 kI_m1 ?_
      refine zg_icmp_ne (tgt := 39) dd_25_26 (by decide) (fun q10 => ?_) (fun q10 => ?_)
      · replace h := z_f h q10
        refine zg_iinc dd_25_39 (j := 3) rfl (v := (v3 + (1 : Int32))) (by rw [kI_1]) (Nat.le_of_ble_eq_true rfl) (lv' := [(3, .inl (v3 + (1 : Int32))), (0, .inr (.inr (some 101))), (1, .inr (.inr (some 2))), (2, .inl v2)]) rfl ?_
        refine zg_goto (tgt := 14) dd_25_42 (by decide) ?_
        refine zg_sub [1, 2, 3, 0] rfl ?_
        exact ih _ _ _ h
      · replace h := z_t h q10
        refine zg_aload_n dd_25_29 rfl (j := 0) rfl ?_
        refine zg_iload_n dd_25_30 rfl (j := 2) rfl ?_
        refine zg_iload_n dd_25_31 rfl (j := 3) rfl ?_
        refine zg_iload_n dd_25_32 rfl (j := 3) rfl ?_
        obtain ⟨r11, e12, h⟩ := z_bd h
        refine zg_invS_i (av := [.inl v3]) (st := [.inl v3, .inl v2, .inr (.inr (some 101))]) (n := 1) dd_25_33 ca_20 zw_505 zw_506 (mt_fc_Shape_secondCorner e12) rfl ⟨by decide +kernel, by decide⟩ (Nat.le_of_ble_eq_true rfl) ?_
        obtain ⟨r13, e14, h⟩ := z_bd h
        refine zg_invV_v (av := [.inl v2, .inl v3, .inl r11]) (st := []) (n := 3) dd_25_36 ca_21 zw_508 zw_510 zv_3 zCs_101 zcl_4 rfl (mt_fc_Shape_makeOne e14) rfl ⟨by decide +kernel, by decide⟩ (Nat.le_of_ble_eq_true rfl) ?_
        refine zg_iinc dd_25_39 (j := 3) rfl (v := (v3 + (1 : Int32))) (by rw [kI_1]) (Nat.le_of_ble_eq_true rfl) (lv' := [(3, .inl (v3 + (1 : Int32))), (0, .inr (.inr (some 101))), (1, .inr (.inr (some 2))), (2, .inl v2)]) rfl ?_
        refine zg_goto (tgt := 14) dd_25_42 (by decide) ?_
        refine zg_sub [1, 2, 3, 0] rfl ?_
        exact ih _ _ _ h
set_option maxRecDepth 20000 in
theorem mt_fc_Shape_rims {I : zI} {res : (Int32 × zI)} (h : fc_Shape_rims I = some res) : zM 3 ym_25 [.inr (.inr (some 101)), .inr (.inr (some 2))] (zCs, zCr, I) (some (.inl res.1)) (zCs, zCr, res.2) 0 0 := by
  refine zM_of (by decide) (Nat.le_of_ble_eq_true rfl) (lv := [(0, .inr (.inr (some 101))), (1, .inr (.inr (some 2)))]) rfl ?_
  rw [fc_Shape_rims] at h
  refine zg_iconst dd_25_0 kI_4 ?_
  refine zg_aload_n dd_25_1 rfl (j := 1) rfl ?_
  refine zg_getI (x := (I 2 0)) dd_25_2 zl_Shape_22 zCs_2 rfl rfl ?_
  refine zg_imul dd_25_5 ?_
  refine zg_istore_n dd_25_6 rfl (Nat.le_of_ble_eq_true rfl) (lv' := [(2, .inl ((4 : Int32) * (I 2 0))), (0, .inr (.inr (some 101))), (1, .inr (.inr (some 2)))]) rfl ?_
  refine zg_aload_n dd_25_7 rfl (j := 1) rfl ?_
  refine zg_aload_n dd_25_8 rfl (j := 2) rfl ?_
  obtain ⟨r1, e2, h⟩ := z_bd h
  refine zg_invV_v (av := [.inr (.inr (some 2))]) (st := []) (n := 1) dd_25_9 ca_18 zw_497 zw_499 zv_1 zCs_101 zcl_4 rfl (mt_fc_Shape_makeCornersOne e2) rfl ⟨by decide +kernel, by decide⟩ (Nat.le_of_ble_eq_true rfl) ?_
  refine zg_iconst dd_25_12 kI_0 ?_
  refine zg_istore_n dd_25_13 rfl (Nat.le_of_ble_eq_true rfl) (lv' := [(3, .inl (0 : Int32)), (2, .inl ((4 : Int32) * (I 2 0))), (0, .inr (.inr (some 101))), (1, .inr (.inr (some 2)))]) rfl ?_
  refine zg_sub [2, 3, 1, 0] rfl ?_
  refine lt_fc_Shape_rims_L14  _ _ _ _ h
/-! TurnedLand$Shape.hangsTogether[101, 2, None] -/
def fc_Shape_hangsTogether_L87 : Nat → Int32 → Int32 → Int32 → Int32 → Int32 → zI → Option (Int32 × zI)
  | 0, _, _, _, _, _, _ => none
  | nf + 1, v3, v4, v5, v6, v7, I =>
    if (I 2 0) ≤ v7 then
      (fc_Shape_makeOne I (I 2 0) v3 v4).bind fun r10 =>
      some ((1 : Int32), r10)
    else
      z_guard (zb v7 32) <|
      if (I 102 v7.toNatClampNeg) = v6 then
        z_guard (zb v7 8) <|
        fc_Shape_hangsTogether_L87 nf v3 v4 v5 v6 (v7 + (1 : Int32)) (zup I 103 v7.toNatClampNeg ((I 103 v7.toNatClampNeg) ^^^ v5))
      else
        fc_Shape_hangsTogether_L87 nf v3 v4 v5 v6 (v7 + (1 : Int32)) I
def fc_Shape_hangsTogether (I : zI) (a2 : Int32) : Option (Int32 × zI) :=
  z_guard (zb ((2 : Int32) * a2) 32) <|
  z_guard (zb (((2 : Int32) * a2) + (1 : Int32)) 32) <|
  z_guard (zb ((I 4 ((2 : Int32) * a2).toNatClampNeg) / (4 : Int32)) 8) <|
  z_guard (zb ((I 4 (((2 : Int32) * a2) + (1 : Int32)).toNatClampNeg) / (4 : Int32)) 8) <|
  z_guard (zb a2 16) <|
  z_guard (zb ((I 4 ((2 : Int32) * a2).toNatClampNeg) / (4 : Int32)) 32) <|
  z_guard (zb ((I 4 (((2 : Int32) * a2) + (1 : Int32)).toNatClampNeg) / (4 : Int32)) 32) <|
  if (I 102 ((I 4 ((2 : Int32) * a2).toNatClampNeg) / (4 : Int32)).toNatClampNeg) = (I 102 ((I 4 (((2 : Int32) * a2) + (1 : Int32)).toNatClampNeg) / (4 : Int32)).toNatClampNeg) then
    if (((I 103 ((I 4 ((2 : Int32) * a2).toNatClampNeg) / (4 : Int32)).toNatClampNeg) ^^^ (I 103 ((I 4 (((2 : Int32) * a2) + (1 : Int32)).toNatClampNeg) / (4 : Int32)).toNatClampNeg)) ^^^ (I 5 a2.toNatClampNeg)) = 0 then
      some ((1 : Int32), I)
    else
      some ((0 : Int32), I)
  else
    fc_Shape_hangsTogether_L87
      100 ((I 4 ((2 : Int32) * a2).toNatClampNeg) / (4 : Int32)) ((I 4 (((2 : Int32) * a2) + (1 : Int32)).toNatClampNeg) / (4 : Int32)) (((I 103 ((I 4 ((2 : Int32) * a2).toNatClampNeg) / (4 : Int32)).toNatClampNeg) ^^^ (I 103 ((I 4 (((2 : Int32) * a2) + (1 : Int32)).toNatClampNeg) / (4 : Int32)).toNatClampNeg)) ^^^ (I 5 a2.toNatClampNeg)) (I 102 ((I 4 (((2 : Int32) * a2) + (1 : Int32)).toNatClampNeg) / (4 : Int32)).toNatClampNeg) (0 : Int32) I
set_option maxRecDepth 20000 in
theorem lt_fc_Shape_hangsTogether_L87 {res : (Int32 × zI)} : ∀ (nf : Nat) (v3 : Int32) (v4 : Int32) (v5 : Int32) (v6 : Int32) (v7 : Int32) (I : zI), fc_Shape_hangsTogether_L87 nf v3 v4 v5 v6 v7 I = some res → zG 2 ym_29 0 0 (some (.inl res.1)) (zCs, zCr, res.2) zCs.length 87 [(0, .inr (.inr (some 101))), (1, .inr (.inr (some 2))), (3, .inl v3), (4, .inl v4), (5, .inl v5), (6, .inl v6), (7, .inl v7)] [] (zCs, zCr, I) 0 0 := by
  intro nf
  induction nf with
  | zero =>
    intro v3 v4 v5 v6 v7 I h
    have h2 : none = some res := h
    cases h2
  | succ nf ih =>
    intro v3 v4 v5 v6 v7 I h
    rw [fc_Shape_hangsTogether_L87] at h
    refine zg_iload dd_29_87 (j := 6) rfl ?_
    refine zg_aload_n dd_29_89 rfl (j := 1) rfl ?_
    refine zg_getI (x := (I 2 0)) dd_29_90 zl_Shape_22 zCs_2 rfl rfl ?_
    refine zg_icmp_ge (tgt := 126) dd_29_93 (by decide) (fun q9 => ?_) (fun q9 => ?_)
    · replace h := z_t h q9
      refine zg_aload_n dd_29_126 rfl (j := 0) rfl ?_
      refine zg_aload_n dd_29_127 rfl (j := 1) rfl ?_
      refine zg_getI (x := (I 2 0)) dd_29_128 zl_Shape_22 zCs_2 rfl rfl ?_
      refine zg_iload_n dd_29_131 rfl (j := 2) rfl ?_
      refine zg_iload dd_29_132 (j := 3) rfl ?_
      obtain ⟨r10, e11, h⟩ := z_bd h
      refine zg_invV_v (av := [.inl (I 2 0), .inl v3, .inl v4]) (st := []) (n := 3) dd_29_134 ca_21 zw_508 zw_510 zv_3 zCs_101 zcl_4 rfl (mt_fc_Shape_makeOne e11) rfl ⟨by decide +kernel, by decide⟩ (Nat.le_of_ble_eq_true rfl) ?_
      refine zg_iconst dd_29_137 kI_1 ?_
      obtain rfl := Option.some.inj h
      exact zg_zret dd_29_138 rfl zSt_b1.1
    · replace h := z_f h q9
      refine zg_aload_n dd_29_96 rfl (j := 0) rfl ?_
      refine zg_getR dd_29_97 zl_Shape_9 zCs_101 rfl zCr_101_0 ?_
      refine zg_iload dd_29_100 (j := 6) rfl ?_
      obtain ⟨g12, h⟩ := z_gd h
      refine zg_iald (w := (I 102 v7.toNatClampNeg)) dd_29_102 zCs_102 g12 rfl ?_
      refine zg_iload dd_29_103 (j := 5) rfl ?_
      refine zg_icmp_ne (tgt := 120) dd_29_105 (by decide) (fun q13 => ?_) (fun q13 => ?_)
      · replace h := z_f h q13
        refine zg_iinc dd_29_120 (j := 6) rfl (v := (v7 + (1 : Int32))) (by rw [kI_1]) (Nat.le_of_ble_eq_true rfl) (lv' := [(7, .inl (v7 + (1 : Int32))), (0, .inr (.inr (some 101))), (1, .inr (.inr (some 2))), (3, .inl v3), (4, .inl v4), (5, .inl v5), (6, .inl v6)]) rfl ?_
        refine zg_goto (tgt := 87) dd_29_123 (by decide) ?_
        refine zg_sub [1, 2, 3, 4, 5, 6, 0] rfl ?_
        exact ih _ _ _ _ _ _ h
      · replace h := z_t h q13
        refine zg_aload_n dd_29_108 rfl (j := 0) rfl ?_
        refine zg_getR dd_29_109 zl_Shape_15 zCs_101 rfl zCr_101_1 ?_
        refine zg_iload dd_29_112 (j := 6) rfl ?_
        refine zg_dup2 dd_29_114 rfl rfl ?_
        obtain ⟨g14, h⟩ := z_gd h
        refine zg_iald (w := (I 103 v7.toNatClampNeg)) dd_29_115 zCs_103 g14 rfl ?_
        refine zg_iload dd_29_116 (j := 4) rfl ?_
        refine zg_ixor dd_29_118 ?_
        refine zg_iast dd_29_119 zCs_103 g14 ?_
        refine zg_iinc dd_29_120 (j := 6) rfl (v := (v7 + (1 : Int32))) (by rw [kI_1]) (Nat.le_of_ble_eq_true rfl) (lv' := [(7, .inl (v7 + (1 : Int32))), (0, .inr (.inr (some 101))), (1, .inr (.inr (some 2))), (3, .inl v3), (4, .inl v4), (5, .inl v5), (6, .inl v6)]) rfl ?_
        refine zg_goto (tgt := 87) dd_29_123 (by decide) ?_
        refine zg_sub [1, 2, 3, 4, 5, 6, 0] rfl ?_
        exact ih _ _ _ _ _ _ h
set_option maxRecDepth 20000 in
theorem mt_fc_Shape_hangsTogether {I : zI} {a2 : Int32} {res : (Int32 × zI)} (h : fc_Shape_hangsTogether I a2 = some res) : zM 2 ym_29 [.inr (.inr (some 101)), .inr (.inr (some 2)), .inl a2] (zCs, zCr, I) (some (.inl res.1)) (zCs, zCr, res.2) 0 0 := by
  refine zM_of (by decide) (Nat.le_of_ble_eq_true rfl) (lv := [(0, .inr (.inr (some 101))), (1, .inr (.inr (some 2))), (2, .inl a2)]) rfl ?_
  rw [fc_Shape_hangsTogether] at h
  refine zg_aload_n dd_29_0 rfl (j := 1) rfl ?_
  refine zg_getR dd_29_1 zl_Shape_39 zCs_2 rfl zCr_2_3 ?_
  refine zg_iconst dd_29_4 kI_2 ?_
  refine zg_iload_n dd_29_5 rfl (j := 2) rfl ?_
  refine zg_imul dd_29_6 ?_
  obtain ⟨g1, h⟩ := z_gd h
  refine zg_iald (w := (I 4 ((2 : Int32) * a2).toNatClampNeg)) dd_29_7 zCs_4 g1 rfl ?_
  refine zg_iconst dd_29_8 kI_4 ?_
  refine zg_idiv dd_29_9 (by decide) ?_
  refine zg_istore_n dd_29_10 rfl (Nat.le_of_ble_eq_true rfl) (lv' := [(3, .inl ((I 4 ((2 : Int32) * a2).toNatClampNeg) / (4 : Int32))), (0, .inr (.inr (some 101))), (1, .inr (.inr (some 2))), (2, .inl a2)]) rfl ?_
  refine zg_aload_n dd_29_11 rfl (j := 2) rfl ?_
  refine zg_getR dd_29_12 zl_Shape_39 zCs_2 rfl zCr_2_3 ?_
  refine zg_iconst dd_29_15 kI_2 ?_
  refine zg_iload_n dd_29_16 rfl (j := 3) rfl ?_
  refine zg_imul dd_29_17 ?_
  refine zg_iconst dd_29_18 kI_1 ?_
  refine zg_iadd dd_29_19 ?_
  obtain ⟨g2, h⟩ := z_gd h
  refine zg_iald (w := (I 4 (((2 : Int32) * a2) + (1 : Int32)).toNatClampNeg)) dd_29_20 zCs_4 g2 rfl ?_
  refine zg_iconst dd_29_21 kI_4 ?_
  refine zg_idiv dd_29_22 (by decide) ?_
  refine zg_istore dd_29_23 (Nat.le_of_ble_eq_true rfl) (lv' := [(4, .inl ((I 4 (((2 : Int32) * a2) + (1 : Int32)).toNatClampNeg) / (4 : Int32))), (3, .inl ((I 4 ((2 : Int32) * a2).toNatClampNeg) / (4 : Int32))), (0, .inr (.inr (some 101))), (1, .inr (.inr (some 2))), (2, .inl a2)]) rfl ?_
  refine zg_aload_n dd_29_25 rfl (j := 2) rfl ?_
  refine zg_getR dd_29_26 zl_Shape_15 zCs_101 rfl zCr_101_1 ?_
  refine zg_iload_n dd_29_29 rfl (j := 1) rfl ?_
  obtain ⟨g3, h⟩ := z_gd h
  refine zg_iald (w := (I 103 ((I 4 ((2 : Int32) * a2).toNatClampNeg) / (4 : Int32)).toNatClampNeg)) dd_29_30 zCs_103 g3 rfl ?_
  refine zg_aload_n dd_29_31 rfl (j := 2) rfl ?_
  refine zg_getR dd_29_32 zl_Shape_15 zCs_101 rfl zCr_101_1 ?_
  refine zg_iload dd_29_35 (j := 0) rfl ?_
  obtain ⟨g4, h⟩ := z_gd h
  refine zg_iald (w := (I 103 ((I 4 (((2 : Int32) * a2) + (1 : Int32)).toNatClampNeg) / (4 : Int32)).toNatClampNeg)) dd_29_37 zCs_103 g4 rfl ?_
  refine zg_ixor dd_29_38 ?_
  refine zg_aload_n dd_29_39 rfl (j := 3) rfl ?_
  refine zg_getR dd_29_40 zl_Shape_70 zCs_2 rfl zCr_2_4 ?_
  refine zg_iload_n dd_29_43 rfl (j := 4) rfl ?_
  obtain ⟨g5, h⟩ := z_gd h
  refine zg_iald (w := (I 5 a2.toNatClampNeg)) dd_29_44 zCs_5 g5 rfl ?_
  refine zg_ixor dd_29_45 ?_
  refine zg_istore dd_29_46 (Nat.le_of_ble_eq_true rfl) (lv' := [(5, .inl (((I 103 ((I 4 ((2 : Int32) * a2).toNatClampNeg) / (4 : Int32)).toNatClampNeg) ^^^ (I 103 ((I 4 (((2 : Int32) * a2) + (1 : Int32)).toNatClampNeg) / (4 : Int32)).toNatClampNeg)) ^^^ (I 5 a2.toNatClampNeg))), (4, .inl ((I 4 (((2 : Int32) * a2) + (1 : Int32)).toNatClampNeg) / (4 : Int32))), (3, .inl ((I 4 ((2 : Int32) * a2).toNatClampNeg) / (4 : Int32))), (0, .inr (.inr (some 101))), (1, .inr (.inr (some 2))), (2, .inl a2)]) rfl ?_
  refine zg_aload_n dd_29_48 rfl (j := 3) rfl ?_
  refine zg_getR dd_29_49 zl_Shape_9 zCs_101 rfl zCr_101_0 ?_
  refine zg_iload_n dd_29_52 rfl (j := 2) rfl ?_
  obtain ⟨g6, h⟩ := z_gd h
  refine zg_iald (w := (I 102 ((I 4 ((2 : Int32) * a2).toNatClampNeg) / (4 : Int32)).toNatClampNeg)) dd_29_53 zCs_102 g6 rfl ?_
  refine zg_aload_n dd_29_54 rfl (j := 3) rfl ?_
  refine zg_getR dd_29_55 zl_Shape_9 zCs_101 rfl zCr_101_0 ?_
  refine zg_iload dd_29_58 (j := 1) rfl ?_
  obtain ⟨g7, h⟩ := z_gd h
  refine zg_iald (w := (I 102 ((I 4 (((2 : Int32) * a2) + (1 : Int32)).toNatClampNeg) / (4 : Int32)).toNatClampNeg)) dd_29_60 zCs_102 g7 rfl ?_
  refine zg_icmp_ne (tgt := 75) dd_29_61 (by decide) (fun q8 => ?_) (fun q8 => ?_)
  · replace h := z_f h q8
    refine zg_aload_n dd_29_75 rfl (j := 3) rfl ?_
    refine zg_getR dd_29_76 zl_Shape_9 zCs_101 rfl zCr_101_0 ?_
    refine zg_iload dd_29_79 (j := 1) rfl ?_
    refine zg_iald (w := (I 102 ((I 4 (((2 : Int32) * a2) + (1 : Int32)).toNatClampNeg) / (4 : Int32)).toNatClampNeg)) dd_29_81 zCs_102 g7 rfl ?_
    refine zg_istore dd_29_82 (Nat.le_of_ble_eq_true rfl) (lv' := [(6, .inl (I 102 ((I 4 (((2 : Int32) * a2) + (1 : Int32)).toNatClampNeg) / (4 : Int32)).toNatClampNeg)), (5, .inl (((I 103 ((I 4 ((2 : Int32) * a2).toNatClampNeg) / (4 : Int32)).toNatClampNeg) ^^^ (I 103 ((I 4 (((2 : Int32) * a2) + (1 : Int32)).toNatClampNeg) / (4 : Int32)).toNatClampNeg)) ^^^ (I 5 a2.toNatClampNeg))), (4, .inl ((I 4 (((2 : Int32) * a2) + (1 : Int32)).toNatClampNeg) / (4 : Int32))), (3, .inl ((I 4 ((2 : Int32) * a2).toNatClampNeg) / (4 : Int32))), (0, .inr (.inr (some 101))), (1, .inr (.inr (some 2))), (2, .inl a2)]) rfl ?_
    refine zg_iconst dd_29_84 kI_0 ?_
    refine zg_istore dd_29_85 (Nat.le_of_ble_eq_true rfl) (lv' := [(7, .inl (0 : Int32)), (6, .inl (I 102 ((I 4 (((2 : Int32) * a2) + (1 : Int32)).toNatClampNeg) / (4 : Int32)).toNatClampNeg)), (5, .inl (((I 103 ((I 4 ((2 : Int32) * a2).toNatClampNeg) / (4 : Int32)).toNatClampNeg) ^^^ (I 103 ((I 4 (((2 : Int32) * a2) + (1 : Int32)).toNatClampNeg) / (4 : Int32)).toNatClampNeg)) ^^^ (I 5 a2.toNatClampNeg))), (4, .inl ((I 4 (((2 : Int32) * a2) + (1 : Int32)).toNatClampNeg) / (4 : Int32))), (3, .inl ((I 4 ((2 : Int32) * a2).toNatClampNeg) / (4 : Int32))), (0, .inr (.inr (some 101))), (1, .inr (.inr (some 2))), (2, .inl a2)]) rfl ?_
    refine zg_sub [5, 6, 4, 3, 2, 1, 0] rfl ?_
    refine lt_fc_Shape_hangsTogether_L87  _ _ _ _ _ _ _ h
  · replace h := z_t h q8
    refine zg_iload dd_29_64 (j := 0) rfl ?_
    refine zg_if_ne (tgt := 73) dd_29_66 (by decide) (fun q15 => ?_) (fun q15 => ?_)
    · replace h := z_f h q15
      refine zg_iconst dd_29_73 kI_0 ?_
      obtain rfl := Option.some.inj h
      exact zg_zret dd_29_74 rfl zSt_b0.1
    · replace h := z_t h q15
      refine zg_iconst dd_29_69 kI_1 ?_
      refine zg_goto (tgt := 74) dd_29_70 (by decide) ?_
      obtain rfl := Option.some.inj h
      exact zg_zret dd_29_74 rfl zSt_b1.1
/-! TurnedLand$Shape.turnsHome[101, 2, None] -/
def fc_Shape_turnsHome_L18 : Nat → Int32 → Int32 → zI → Option (Int32 × zI)
  | 0, _, _, _ => none
  | nf + 1, v2, v3, I =>
    if (I 2 2) ≤ v3 then
      some ((0 : Int32), I)
    else
      if ((v2 >>> (v3 &&& 31)) &&& (1 : Int32)) = (1 : Int32) then
        fc_Shape_turnsHome_L18 nf v2 (v3 + (1 : Int32)) I
      else
        (fc_Shape_hangsTogether I v3).bind fun r6 =>
        if r6.1 = 0 then
          some ((1 : Int32), r6.2)
        else
          fc_Shape_turnsHome_L18 nf v2 (v3 + (1 : Int32)) r6.2
def fc_Shape_turnsHome (I : zI) (a2 : Int32) : Option (Int32 × zI) :=
  (fc_Shape_begin I (I 2 0)).bind fun r1 =>
  fc_Shape_turnsHome_L18
    100 a2 (0 : Int32) (zfill r1 103 8 (0 : Int32))
set_option maxRecDepth 20000 in
theorem lt_fc_Shape_turnsHome_L18 {res : (Int32 × zI)} : ∀ (nf : Nat) (v2 : Int32) (v3 : Int32) (I : zI), fc_Shape_turnsHome_L18 nf v2 v3 I = some res → zG 3 ym_27 0 0 (some (.inl res.1)) (zCs, zCr, res.2) zCs.length 18 [(0, .inr (.inr (some 101))), (1, .inr (.inr (some 2))), (2, .inl v2), (3, .inl v3)] [] (zCs, zCr, I) 0 0 := by
  intro nf
  induction nf with
  | zero =>
    intro v2 v3 I h
    have h2 : none = some res := h
    cases h2
  | succ nf ih =>
    intro v2 v3 I h
    rw [fc_Shape_turnsHome_L18] at h
    refine zg_iload_n dd_27_18 rfl (j := 3) rfl ?_
    refine zg_aload_n dd_27_19 rfl (j := 1) rfl ?_
    refine zg_getI (x := (I 2 2)) dd_27_20 zl_Shape_36 zCs_2 rfl rfl ?_
    refine zg_icmp_ge (tgt := 64) dd_27_23 (by decide) (fun q3 => ?_) (fun q3 => ?_)
    · replace h := z_t h q3
      refine zg_iconst dd_27_64 kI_0 ?_
      obtain rfl := Option.some.inj h
      exact zg_zret dd_27_65 rfl zSt_b0.1
    · replace h := z_f h q3
      refine zg_iload_n dd_27_26 rfl (j := 2) rfl ?_
      refine zg_iload_n dd_27_27 rfl (j := 3) rfl ?_
      refine zg_ishr dd_27_28 ?_
      refine zg_iconst dd_27_29 kI_1 ?_
      refine zg_iand dd_27_30 ?_
      refine zg_iconst dd_27_31 kI_1 ?_
      refine zg_icmp_ne (tgt := 39) dd_27_32 (by decide) (fun q4 => ?_) (fun q4 => ?_)
      · replace h := z_f h q4
        refine zg_iconst dd_27_39 kI_0 ?_
        refine zg_istore dd_27_40 (Nat.le_of_ble_eq_true rfl) (lv' := [(4, .inl (0 : Int32)), (0, .inr (.inr (some 101))), (1, .inr (.inr (some 2))), (2, .inl v2), (3, .inl v3)]) rfl ?_
        refine zg_iload dd_27_42 (j := 0) rfl ?_
        refine zg_if_ne (tgt := 58) dd_27_44 (by decide) (fun q5 => absurd q5 (by decide)) (fun _ => ?_)
        refine zg_aload_n dd_27_47 rfl (j := 1) rfl ?_
        refine zg_aload_n dd_27_48 rfl (j := 2) rfl ?_
        refine zg_iload_n dd_27_49 rfl (j := 4) rfl ?_
        obtain ⟨r6, e7, h⟩ := z_bd h
        refine zg_invV_i (av := [.inr (.inr (some 2)), .inl v3]) (st := []) (n := 2) dd_27_50 ca_29 zw_538 zw_540 zv_5 zCs_101 zcl_4 rfl (mt_fc_Shape_hangsTogether e7) rfl ⟨by decide +kernel, by decide⟩ (Nat.le_of_ble_eq_true rfl) ?_
        refine zg_if_ne (tgt := 58) dd_27_53 (by decide) (fun q8 => ?_) (fun q8 => ?_)
        · replace h := z_f h q8
          refine zg_iinc dd_27_58 (j := 4) rfl (v := (v3 + (1 : Int32))) (by rw [kI_1]) (Nat.le_of_ble_eq_true rfl) (lv' := [(3, .inl (v3 + (1 : Int32))), (4, .inl (0 : Int32)), (0, .inr (.inr (some 101))), (1, .inr (.inr (some 2))), (2, .inl v2)]) rfl ?_
          refine zg_goto (tgt := 18) dd_27_61 (by decide) ?_
          refine zg_sub [2, 3, 4, 0] rfl ?_
          exact ih _ _ _ h
        · replace h := z_t h q8
          refine zg_iconst dd_27_56 kI_1 ?_
          obtain rfl := Option.some.inj h
          exact zg_zret dd_27_57 rfl zSt_b1.1
      · replace h := z_t h q4
        refine zg_iconst dd_27_35 kI_1 ?_
        refine zg_goto (tgt := 40) dd_27_36 (by decide) ?_
        refine zg_istore dd_27_40 (Nat.le_of_ble_eq_true rfl) (lv' := [(4, .inl (1 : Int32)), (0, .inr (.inr (some 101))), (1, .inr (.inr (some 2))), (2, .inl v2), (3, .inl v3)]) rfl ?_
        refine zg_iload dd_27_42 (j := 0) rfl ?_
        refine zg_if_ne (tgt := 58) dd_27_44 (by decide) (fun _ => ?_) (fun q9 => absurd q9 (by decide))
        refine zg_iinc dd_27_58 (j := 4) rfl (v := (v3 + (1 : Int32))) (by rw [kI_1]) (Nat.le_of_ble_eq_true rfl) (lv' := [(3, .inl (v3 + (1 : Int32))), (4, .inl (1 : Int32)), (0, .inr (.inr (some 101))), (1, .inr (.inr (some 2))), (2, .inl v2)]) rfl ?_
        refine zg_goto (tgt := 18) dd_27_61 (by decide) ?_
        refine zg_sub [2, 3, 4, 0] rfl ?_
        exact ih _ _ _ h
set_option maxRecDepth 20000 in
theorem mt_fc_Shape_turnsHome {I : zI} {a2 : Int32} {res : (Int32 × zI)} (h : fc_Shape_turnsHome I a2 = some res) : zM 3 ym_27 [.inr (.inr (some 101)), .inr (.inr (some 2)), .inl a2] (zCs, zCr, I) (some (.inl res.1)) (zCs, zCr, res.2) 0 0 := by
  refine zM_of (by decide) (Nat.le_of_ble_eq_true rfl) (lv := [(0, .inr (.inr (some 101))), (1, .inr (.inr (some 2))), (2, .inl a2)]) rfl ?_
  rw [fc_Shape_turnsHome] at h
  refine zg_aload_n dd_27_0 rfl (j := 0) rfl ?_
  refine zg_aload_n dd_27_1 rfl (j := 1) rfl ?_
  refine zg_getI (x := (I 2 0)) dd_27_2 zl_Shape_22 zCs_2 rfl rfl ?_
  obtain ⟨r1, e2, h⟩ := z_bd h
  refine zg_invV_v (av := [.inl (I 2 0)]) (st := []) (n := 1) dd_27_5 ca_19 zw_501 zw_503 zv_2 zCs_101 zcl_4 rfl (mt_fc_Shape_begin e2) rfl ⟨by decide +kernel, by decide⟩ (Nat.le_of_ble_eq_true rfl) ?_
  refine zg_aload_n dd_27_8 rfl (j := 0) rfl ?_
  refine zg_getR dd_27_9 zl_Shape_15 zCs_101 rfl zCr_101_1 ?_
  refine zg_iconst dd_27_12 kI_0 ?_
  refine zg_invS_v (av := [.inr (.inr (some 103)), .inl (0 : Int32)]) (st := []) (n := 2) dd_27_13 ca_28 zw_537 zw_43 (mt_fill zCs_103 (Nat.le_of_ble_eq_true rfl)) rfl ⟨by decide +kernel, by decide⟩ (Nat.le_of_ble_eq_true rfl) ?_
  refine zg_iconst dd_27_16 kI_0 ?_
  refine zg_istore_n dd_27_17 rfl (Nat.le_of_ble_eq_true rfl) (lv' := [(3, .inl (0 : Int32)), (0, .inr (.inr (some 101))), (1, .inr (.inr (some 2))), (2, .inl a2)]) rfl ?_
  refine zg_sub [1, 2, 3, 0] rfl ?_
  refine lt_fc_Shape_turnsHome_L18  _ _ _ _ h
