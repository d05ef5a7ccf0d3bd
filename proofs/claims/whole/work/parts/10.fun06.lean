/-! TurnedLand.lowestBits[None, None] -/
def fc_T_lowestBits (I : zI) (a0 : Int32) (a1 : Int32) : Option Int32 :=
  if a1 = (32 : Int32) then
    some a0
  else
    some (a0 &&& (((1 : Int32) <<< (a1 &&& 31)) - (1 : Int32)))
set_option maxRecDepth 20000 in
theorem mt_fc_T_lowestBits {I : zI} {a0 : Int32} {a1 : Int32} {res : Int32} (h : fc_T_lowestBits I a0 a1 = some res) : zM 1 ym_123 [.inl a0, .inl a1] (zCs, zCr, I) (some (.inl res)) (zCs, zCr, I) 0 0 := by
  refine zM_of (by decide) (Nat.le_of_ble_eq_true rfl) (lv := [(0, .inl a0), (1, .inl a1)]) rfl ?_
  rw [fc_T_lowestBits] at h
  refine zg_iload_n dd_123_0 rfl (j := 1) rfl ?_
  refine zg_bipush dd_123_1 kB_32 ?_
  refine zg_icmp_ne (tgt := 10) dd_123_3 (by decide) (fun q1 => ?_) (fun q1 => ?_)
  · replace h := z_f h q1
    refine zg_iload_n dd_123_10 rfl (j := 0) rfl ?_
    refine zg_iconst dd_123_11 kI_1 ?_
    refine zg_iload_n dd_123_12 rfl (j := 1) rfl ?_
    refine zg_ishl dd_123_13 ?_
    refine zg_iconst dd_123_14 kI_1 ?_
    refine zg_isub dd_123_15 ?_
    refine zg_iand dd_123_16 ?_
    obtain rfl := Option.some.inj h
    exact zg_iret dd_123_17 rfl
  · replace h := z_t h q1
    refine zg_iload_n dd_123_6 rfl (j := 0) rfl ?_
    refine zg_goto (tgt := 17) dd_123_7 (by decide) ?_
    obtain rfl := Option.some.inj h
    exact zg_iret dd_123_17 rfl
/-! TurnedLand.put(0, None, None, None) -/
def fc_T_put (I : zI) (a1 : Int32) (a2 : Int32) (a3 : Int32) : Option (Int32 × zI) :=
  (fc_T_isSheet I a1).bind fun r1 =>
  if r1 = 0 then
    (fc_T_refuse I (1 : Int32)).bind fun r16 =>
    some (r16.1, r16.2)
  else
    z_guard (zb a1 4) <|
    if (I 94 a1.toNatClampNeg) = 0 then
      (fc_T_refuse I (2 : Int32)).bind fun r14 =>
      some (r14.1, r14.2)
    else
      (fc_T_within I a2 (0 : Int32) ((I 95 a1.toNatClampNeg) - (1 : Int32))).bind fun r6 =>
      if r6 = 0 then
        (fc_T_refuse I (1 : Int32)).bind fun r12 =>
        some (r12.1, r12.2)
      else
        (fc_T_lowestBits I a3 (I 94 a1.toNatClampNeg)).bind fun r9 =>
        z_guard (zb a2 24) <|
        some ((1 : Int32), (zup I (97 + a1.toNatClampNeg) a2.toNatClampNeg r9))
set_option maxRecDepth 20000 in
theorem mt_fc_T_put {I : zI} {a1 : Int32} {a2 : Int32} {a3 : Int32} {res : (Int32 × zI)} (h : fc_T_put I a1 a2 a3 = some res) : zM 3 ym_122 [.inr (.inr (some 0)), .inl a1, .inl a2, .inl a3] (zCs, zCr, I) (some (.inl res.1)) (zCs, zCr, res.2) 0 0 := by
  refine zM_of (by decide) (Nat.le_of_ble_eq_true rfl) (lv := [(0, .inr (.inr (some 0))), (1, .inl a1), (2, .inl a2), (3, .inl a3)]) rfl ?_
  rw [fc_T_put] at h
  refine zg_iload_n dd_122_0 rfl (j := 1) rfl ?_
  obtain ⟨r1, e2, h⟩ := z_bd h
  refine zg_invS_i (av := [.inl a1]) (st := []) (n := 1) dd_122_1 ca_121 zw_943 zw_944 (mt_fc_T_isSheet e2) rfl ⟨by decide +kernel, by decide⟩ (Nat.le_of_ble_eq_true rfl) ?_
  refine zg_if_ne (tgt := 13) dd_122_4 (by decide) (fun q3 => ?_) (fun q3 => ?_)
  · replace h := z_f h q3
    refine zg_aload_n dd_122_13 rfl (j := 0) rfl ?_
    refine zg_getR dd_122_14 zl_T_27 zCs_0 rfl zCr_0_4 ?_
    refine zg_iload_n dd_122_17 rfl (j := 1) rfl ?_
    obtain ⟨g4, h⟩ := z_gd h
    refine zg_iald (w := (I 94 a1.toNatClampNeg)) dd_122_18 zCs_94 g4 rfl ?_
    refine zg_if_ne (tgt := 28) dd_122_19 (by decide) (fun q5 => ?_) (fun q5 => ?_)
    · replace h := z_f h q5
      refine zg_iload_n dd_122_28 rfl (j := 2) rfl ?_
      refine zg_iconst dd_122_29 kI_0 ?_
      refine zg_aload_n dd_122_30 rfl (j := 0) rfl ?_
      refine zg_getR dd_122_31 zl_T_30 zCs_0 rfl zCr_0_5 ?_
      refine zg_iload_n dd_122_34 rfl (j := 1) rfl ?_
      refine zg_iald (w := (I 95 a1.toNatClampNeg)) dd_122_35 zCs_95 g4 rfl ?_
      refine zg_iconst dd_122_36 kI_1 ?_
      refine zg_isub dd_122_37 ?_
      obtain ⟨r6, e7, h⟩ := z_bd h
      refine zg_invS_i (av := [.inl a2, .inl (0 : Int32), .inl ((I 95 a1.toNatClampNeg) - (1 : Int32))]) (st := []) (n := 3) dd_122_38 ca_1 zw_427 zw_428 (mt_fc_T_within e7) rfl ⟨by decide +kernel, by decide⟩ (Nat.le_of_ble_eq_true rfl) ?_
      refine zg_if_ne (tgt := 50) dd_122_41 (by decide) (fun q8 => ?_) (fun q8 => ?_)
      · replace h := z_f h q8
        refine zg_aload_n dd_122_50 rfl (j := 0) rfl ?_
        refine zg_getR dd_122_51 zl_T_35 zCs_0 rfl zCr_0_6 ?_
        refine zg_iload_n dd_122_54 rfl (j := 1) rfl ?_
        refine zg_aald1 dd_122_55 zCs_96 g4 (zrR_C_96 g4) ?_
        refine zg_iload_n dd_122_56 rfl (j := 2) rfl ?_
        refine zg_iload_n dd_122_57 rfl (j := 3) rfl ?_
        refine zg_aload_n dd_122_58 rfl (j := 0) rfl ?_
        refine zg_getR dd_122_59 zl_T_27 zCs_0 rfl zCr_0_4 ?_
        refine zg_iload_n dd_122_62 rfl (j := 1) rfl ?_
        refine zg_iald (w := (I 94 a1.toNatClampNeg)) dd_122_63 zCs_94 g4 rfl ?_
        obtain ⟨r9, e10, h⟩ := z_bd h
        refine zg_invS_i (av := [.inl a3, .inl (I 94 a1.toNatClampNeg)]) (st := [.inl a2, .inr (.inr (some (97 + a1.toNatClampNeg)))]) (n := 2) dd_122_64 ca_123 zw_951 zw_952 (mt_fc_T_lowestBits e10) rfl ⟨by decide +kernel, by decide⟩ (Nat.le_of_ble_eq_true rfl) ?_
        obtain ⟨g11, h⟩ := z_gd h
        refine zg_iast dd_122_67 (zrS_C_96 g4) g11 ?_
        refine zg_iconst dd_122_68 kI_1 ?_
        obtain rfl := Option.some.inj h
        exact zg_iret dd_122_69 rfl
      · replace h := z_t h q8
        refine zg_aload_n dd_122_44 rfl (j := 0) rfl ?_
        refine zg_iconst dd_122_45 kI_1 ?_
        obtain ⟨r12, e13, h⟩ := z_bd h
        refine zg_invV_i (av := [.inl (1 : Int32)]) (st := []) (n := 1) dd_122_46 ca_2 zw_430 zw_432 zv_0 zCs_0 zcl_11 rfl (mt_fc_T_refuse e13) rfl ⟨by decide +kernel, by decide⟩ (Nat.le_of_ble_eq_true rfl) ?_
        obtain rfl := Option.some.inj h
        exact zg_iret dd_122_49 rfl
    · replace h := z_t h q5
      refine zg_aload_n dd_122_22 rfl (j := 0) rfl ?_
      refine zg_iconst dd_122_23 kI_2 ?_
      obtain ⟨r14, e15, h⟩ := z_bd h
      refine zg_invV_i (av := [.inl (2 : Int32)]) (st := []) (n := 1) dd_122_24 ca_2 zw_430 zw_432 zv_0 zCs_0 zcl_11 rfl (mt_fc_T_refuse e15) rfl ⟨by decide +kernel, by decide⟩ (Nat.le_of_ble_eq_true rfl) ?_
      obtain rfl := Option.some.inj h
      exact zg_iret dd_122_27 rfl
  · replace h := z_t h q3
    refine zg_aload_n dd_122_7 rfl (j := 0) rfl ?_
    refine zg_iconst dd_122_8 kI_1 ?_
    obtain ⟨r16, e17, h⟩ := z_bd h
    refine zg_invV_i (av := [.inl (1 : Int32)]) (st := []) (n := 1) dd_122_9 ca_2 zw_430 zw_432 zv_0 zCs_0 zcl_11 rfl (mt_fc_T_refuse e17) rfl ⟨by decide +kernel, by decide⟩ (Nat.le_of_ble_eq_true rfl) ?_
    obtain rfl := Option.some.inj h
    exact zg_iret dd_122_12 rfl
/-! TurnedLand.standThere[0, None, None, None] -/
def fc_T_standThere (I : zI) (a1 : Int32) (a2 : Int32) (a3 : Int32) : Option Int32 :=
  if a3 < 0 then
    some (0 : Int32)
  else
    if a2 < 0 then
      some (0 : Int32)
    else
      z_guard (zb a1 4) <|
      if (I 95 a1.toNatClampNeg) < a3 then
        some (0 : Int32)
      else
        if ((I 95 a1.toNatClampNeg) - a3) < a2 then
          some (0 : Int32)
        else
          some (1 : Int32)
set_option maxRecDepth 20000 in
theorem mt_fc_T_standThere {I : zI} {a1 : Int32} {a2 : Int32} {a3 : Int32} {res : Int32} (h : fc_T_standThere I a1 a2 a3 = some res) : zM 1 ym_125 [.inr (.inr (some 0)), .inl a1, .inl a2, .inl a3] (zCs, zCr, I) (some (.inl res)) (zCs, zCr, I) 0 0 := by
  refine zM_of (by decide) (Nat.le_of_ble_eq_true rfl) (lv := [(0, .inr (.inr (some 0))), (1, .inl a1), (2, .inl a2), (3, .inl a3)]) rfl ?_
  rw [fc_T_standThere] at h
  refine zg_iload_n dd_125_0 rfl (j := 3) rfl ?_
  refine zg_if_lt (tgt := 34) dd_125_1 (by decide) (fun q1 => ?_) (fun q1 => ?_)
  · replace h := z_t h q1
    refine zg_iconst dd_125_34 kI_0 ?_
    obtain rfl := Option.some.inj h
    exact zg_zret dd_125_35 rfl zSt_b0.1
  · replace h := z_f h q1
    refine zg_iload_n dd_125_4 rfl (j := 2) rfl ?_
    refine zg_if_lt (tgt := 34) dd_125_5 (by decide) (fun q2 => ?_) (fun q2 => ?_)
    · replace h := z_t h q2
      refine zg_iconst dd_125_34 kI_0 ?_
      obtain rfl := Option.some.inj h
      exact zg_zret dd_125_35 rfl zSt_b0.1
    · replace h := z_f h q2
      refine zg_iload_n dd_125_8 rfl (j := 3) rfl ?_
      refine zg_aload_n dd_125_9 rfl (j := 0) rfl ?_
      refine zg_getR dd_125_10 zl_T_30 zCs_0 rfl zCr_0_5 ?_
      refine zg_iload_n dd_125_13 rfl (j := 1) rfl ?_
      obtain ⟨g3, h⟩ := z_gd h
      refine zg_iald (w := (I 95 a1.toNatClampNeg)) dd_125_14 zCs_95 g3 rfl ?_
      refine zg_icmp_gt (tgt := 34) dd_125_15 (by decide) (fun q4 => ?_) (fun q4 => ?_)
      · replace h := z_t h q4
        refine zg_iconst dd_125_34 kI_0 ?_
        obtain rfl := Option.some.inj h
        exact zg_zret dd_125_35 rfl zSt_b0.1
      · replace h := z_f h q4
        refine zg_iload_n dd_125_18 rfl (j := 2) rfl ?_
        refine zg_aload_n dd_125_19 rfl (j := 0) rfl ?_
        refine zg_getR dd_125_20 zl_T_30 zCs_0 rfl zCr_0_5 ?_
        refine zg_iload_n dd_125_23 rfl (j := 1) rfl ?_
        refine zg_iald (w := (I 95 a1.toNatClampNeg)) dd_125_24 zCs_95 g3 rfl ?_
        refine zg_iload_n dd_125_25 rfl (j := 3) rfl ?_
        refine zg_isub dd_125_26 ?_
        refine zg_icmp_gt (tgt := 34) dd_125_27 (by decide) (fun q5 => ?_) (fun q5 => ?_)
        · replace h := z_t h q5
          refine zg_iconst dd_125_34 kI_0 ?_
          obtain rfl := Option.some.inj h
          exact zg_zret dd_125_35 rfl zSt_b0.1
        · replace h := z_f h q5
          refine zg_iconst dd_125_30 kI_1 ?_
          refine zg_goto (tgt := 35) dd_125_31 (by decide) ?_
          obtain rfl := Option.some.inj h
          exact zg_zret dd_125_35 rfl zSt_b1.1
/-! TurnedLand.move(0, None, None, None, None, None) -/
def fc_T_move (I : zI) (a1 : Int32) (a2 : Int32) (a3 : Int32) (a4 : Int32) (a5 : Int32) : Option (Int32 × zI) :=
  (fc_T_isSheet I a1).bind fun r1 =>
  if r1 = 0 then
    (fc_T_refuse I (1 : Int32)).bind fun r4 =>
    some (r4.1, r4.2)
  else
    (fc_T_isSheet I a3).bind fun r6 =>
    if r6 = 0 then
      (fc_T_refuse I (1 : Int32)).bind fun r31 =>
      some (r31.1, r31.2)
    else
      z_guard (zb a1 4) <|
      if (I 94 a1.toNatClampNeg) = 0 then
        (fc_T_refuse I (2 : Int32)).bind fun r11 =>
        some (r11.1, r11.2)
      else
        z_guard (zb a3 4) <|
        if (I 94 a3.toNatClampNeg) = 0 then
          (fc_T_refuse I (2 : Int32)).bind fun r29 =>
          some (r29.1, r29.2)
        else
          if (I 94 a1.toNatClampNeg) = (I 94 a3.toNatClampNeg) then
            (fc_T_standThere I a1 a2 a5).bind fun r16 =>
            if r16 = 0 then
              (fc_T_refuse I (1 : Int32)).bind fun r19 =>
              some (r19.1, r19.2)
            else
              (fc_T_standThere I a3 a4 a5).bind fun r21 =>
              if r21 = 0 then
                (fc_T_refuse I (1 : Int32)).bind fun r25 =>
                some (r25.1, r25.2)
              else
                z_guard (zcpOk a2 a4 a5 24 24) <|
                some (a5, (zcopy I (97 + a1.toNatClampNeg) (97 + a3.toNatClampNeg) a2 a4 a5))
          else
            (fc_T_refuse I (5 : Int32)).bind fun r27 =>
            some (r27.1, r27.2)
set_option maxRecDepth 20000 in
theorem mt_fc_T_move {I : zI} {a1 : Int32} {a2 : Int32} {a3 : Int32} {a4 : Int32} {a5 : Int32} {res : (Int32 × zI)} (h : fc_T_move I a1 a2 a3 a4 a5 = some res) : zM 3 ym_124 [.inr (.inr (some 0)), .inl a1, .inl a2, .inl a3, .inl a4, .inl a5] (zCs, zCr, I) (some (.inl res.1)) (zCs, zCr, res.2) 0 0 := by
  refine zM_of (by decide) (Nat.le_of_ble_eq_true rfl) (lv := [(0, .inr (.inr (some 0))), (1, .inl a1), (2, .inl a2), (3, .inl a3), (4, .inl a4), (5, .inl a5)]) rfl ?_
  rw [fc_T_move] at h
  refine zg_iload_n dd_124_0 rfl (j := 1) rfl ?_
  obtain ⟨r1, e2, h⟩ := z_bd h
  refine zg_invS_i (av := [.inl a1]) (st := []) (n := 1) dd_124_1 ca_121 zw_943 zw_944 (mt_fc_T_isSheet e2) rfl ⟨by decide +kernel, by decide⟩ (Nat.le_of_ble_eq_true rfl) ?_
  refine zg_if_eq (tgt := 14) dd_124_4 (by decide) (fun q3 => ?_) (fun q3 => ?_)
  · replace h := z_t h q3
    refine zg_aload_n dd_124_14 rfl (j := 0) rfl ?_
    refine zg_iconst dd_124_15 kI_1 ?_
    obtain ⟨r4, e5, h⟩ := z_bd h
    refine zg_invV_i (av := [.inl (1 : Int32)]) (st := []) (n := 1) dd_124_16 ca_2 zw_430 zw_432 zv_0 zCs_0 zcl_11 rfl (mt_fc_T_refuse e5) rfl ⟨by decide +kernel, by decide⟩ (Nat.le_of_ble_eq_true rfl) ?_
    obtain rfl := Option.some.inj h
    exact zg_iret dd_124_19 rfl
  · replace h := z_f h q3
    refine zg_iload_n dd_124_7 rfl (j := 3) rfl ?_
    obtain ⟨r6, e7, h⟩ := z_bd h
    refine zg_invS_i (av := [.inl a3]) (st := []) (n := 1) dd_124_8 ca_121 zw_943 zw_944 (mt_fc_T_isSheet e7) rfl ⟨by decide +kernel, by decide⟩ (Nat.le_of_ble_eq_true rfl) ?_
    refine zg_if_ne (tgt := 20) dd_124_11 (by decide) (fun q8 => ?_) (fun q8 => ?_)
    · replace h := z_f h q8
      refine zg_aload_n dd_124_20 rfl (j := 0) rfl ?_
      refine zg_getR dd_124_21 zl_T_27 zCs_0 rfl zCr_0_4 ?_
      refine zg_iload_n dd_124_24 rfl (j := 1) rfl ?_
      obtain ⟨g9, h⟩ := z_gd h
      refine zg_iald (w := (I 94 a1.toNatClampNeg)) dd_124_25 zCs_94 g9 rfl ?_
      refine zg_if_eq (tgt := 38) dd_124_26 (by decide) (fun q10 => ?_) (fun q10 => ?_)
      · replace h := z_t h q10
        refine zg_aload_n dd_124_38 rfl (j := 0) rfl ?_
        refine zg_iconst dd_124_39 kI_2 ?_
        obtain ⟨r11, e12, h⟩ := z_bd h
        refine zg_invV_i (av := [.inl (2 : Int32)]) (st := []) (n := 1) dd_124_40 ca_2 zw_430 zw_432 zv_0 zCs_0 zcl_11 rfl (mt_fc_T_refuse e12) rfl ⟨by decide +kernel, by decide⟩ (Nat.le_of_ble_eq_true rfl) ?_
        obtain rfl := Option.some.inj h
        exact zg_iret dd_124_43 rfl
      · replace h := z_f h q10
        refine zg_aload_n dd_124_29 rfl (j := 0) rfl ?_
        refine zg_getR dd_124_30 zl_T_27 zCs_0 rfl zCr_0_4 ?_
        refine zg_iload_n dd_124_33 rfl (j := 3) rfl ?_
        obtain ⟨g13, h⟩ := z_gd h
        refine zg_iald (w := (I 94 a3.toNatClampNeg)) dd_124_34 zCs_94 g13 rfl ?_
        refine zg_if_ne (tgt := 44) dd_124_35 (by decide) (fun q14 => ?_) (fun q14 => ?_)
        · replace h := z_f h q14
          refine zg_aload_n dd_124_44 rfl (j := 0) rfl ?_
          refine zg_getR dd_124_45 zl_T_27 zCs_0 rfl zCr_0_4 ?_
          refine zg_iload_n dd_124_48 rfl (j := 1) rfl ?_
          refine zg_iald (w := (I 94 a1.toNatClampNeg)) dd_124_49 zCs_94 g9 rfl ?_
          refine zg_aload_n dd_124_50 rfl (j := 0) rfl ?_
          refine zg_getR dd_124_51 zl_T_27 zCs_0 rfl zCr_0_4 ?_
          refine zg_iload_n dd_124_54 rfl (j := 3) rfl ?_
          refine zg_iald (w := (I 94 a3.toNatClampNeg)) dd_124_55 zCs_94 g13 rfl ?_
          refine zg_icmp_eq (tgt := 65) dd_124_56 (by decide) (fun q15 => ?_) (fun q15 => ?_)
          · replace h := z_t h q15
            refine zg_aload_n dd_124_65 rfl (j := 0) rfl ?_
            refine zg_iload_n dd_124_66 rfl (j := 1) rfl ?_
            refine zg_iload_n dd_124_67 rfl (j := 2) rfl ?_
            refine zg_iload dd_124_68 (j := 5) rfl ?_
            obtain ⟨r16, e17, h⟩ := z_bd h
            refine zg_invV_i (av := [.inl a1, .inl a2, .inl a5]) (st := []) (n := 3) dd_124_70 ca_125 zw_958 zw_960 zv_30 zCs_0 zcl_11 rfl (mt_fc_T_standThere e17) rfl ⟨by decide +kernel, by decide⟩ (Nat.le_of_ble_eq_true rfl) ?_
            refine zg_if_eq (tgt := 88) dd_124_73 (by decide) (fun q18 => ?_) (fun q18 => ?_)
            · replace h := z_t h q18
              refine zg_aload_n dd_124_88 rfl (j := 0) rfl ?_
              refine zg_iconst dd_124_89 kI_1 ?_
              obtain ⟨r19, e20, h⟩ := z_bd h
              refine zg_invV_i (av := [.inl (1 : Int32)]) (st := []) (n := 1) dd_124_90 ca_2 zw_430 zw_432 zv_0 zCs_0 zcl_11 rfl (mt_fc_T_refuse e20) rfl ⟨by decide +kernel, by decide⟩ (Nat.le_of_ble_eq_true rfl) ?_
              obtain rfl := Option.some.inj h
              exact zg_iret dd_124_93 rfl
            · replace h := z_f h q18
              refine zg_aload_n dd_124_76 rfl (j := 0) rfl ?_
              refine zg_iload_n dd_124_77 rfl (j := 3) rfl ?_
              refine zg_iload dd_124_78 (j := 4) rfl ?_
              refine zg_iload dd_124_80 (j := 5) rfl ?_
              obtain ⟨r21, e22, h⟩ := z_bd h
              refine zg_invV_i (av := [.inl a3, .inl a4, .inl a5]) (st := []) (n := 3) dd_124_82 ca_125 zw_958 zw_960 zv_30 zCs_0 zcl_11 rfl (mt_fc_T_standThere e22) rfl ⟨by decide +kernel, by decide⟩ (Nat.le_of_ble_eq_true rfl) ?_
              refine zg_if_ne (tgt := 94) dd_124_85 (by decide) (fun q23 => ?_) (fun q23 => ?_)
              · replace h := z_f h q23
                refine zg_aload_n dd_124_94 rfl (j := 0) rfl ?_
                refine zg_getR dd_124_95 zl_T_35 zCs_0 rfl zCr_0_6 ?_
                refine zg_iload_n dd_124_98 rfl (j := 1) rfl ?_
                refine zg_aald1 dd_124_99 zCs_96 g9 (zrR_C_96 g9) ?_
                refine zg_iload_n dd_124_100 rfl (j := 2) rfl ?_
                refine zg_aload_n dd_124_101 rfl (j := 0) rfl ?_
                refine zg_getR dd_124_102 zl_T_35 zCs_0 rfl zCr_0_6 ?_
                refine zg_iload_n dd_124_105 rfl (j := 3) rfl ?_
                refine zg_aald1 dd_124_106 zCs_96 g13 (zrR_C_96 g13) ?_
                refine zg_iload dd_124_107 (j := 4) rfl ?_
                refine zg_iload dd_124_109 (j := 5) rfl ?_
                obtain ⟨g24, h⟩ := z_gd h
                refine zg_acopy dd_124_111 zw_962 zacw (zrS_C_96 g9) (zrS_C_96 g13) g24 (by first | decide | omega) (Nat.le_of_ble_eq_true rfl) ?_
                refine zg_iload dd_124_114 (j := 5) rfl ?_
                obtain rfl := Option.some.inj h
                exact zg_iret dd_124_116 rfl
              · replace h := z_t h q23
                refine zg_aload_n dd_124_88 rfl (j := 0) rfl ?_
                refine zg_iconst dd_124_89 kI_1 ?_
                obtain ⟨r25, e26, h⟩ := z_bd h
                refine zg_invV_i (av := [.inl (1 : Int32)]) (st := []) (n := 1) dd_124_90 ca_2 zw_430 zw_432 zv_0 zCs_0 zcl_11 rfl (mt_fc_T_refuse e26) rfl ⟨by decide +kernel, by decide⟩ (Nat.le_of_ble_eq_true rfl) ?_
                obtain rfl := Option.some.inj h
                exact zg_iret dd_124_93 rfl
          · replace h := z_f h q15
            refine zg_aload_n dd_124_59 rfl (j := 0) rfl ?_
            refine zg_iconst dd_124_60 kI_5 ?_
            obtain ⟨r27, e28, h⟩ := z_bd h
            refine zg_invV_i (av := [.inl (5 : Int32)]) (st := []) (n := 1) dd_124_61 ca_2 zw_430 zw_432 zv_0 zCs_0 zcl_11 rfl (mt_fc_T_refuse e28) rfl ⟨by decide +kernel, by decide⟩ (Nat.le_of_ble_eq_true rfl) ?_
            obtain rfl := Option.some.inj h
            exact zg_iret dd_124_64 rfl
        · replace h := z_t h q14
          refine zg_aload_n dd_124_38 rfl (j := 0) rfl ?_
          refine zg_iconst dd_124_39 kI_2 ?_
          obtain ⟨r29, e30, h⟩ := z_bd h
          refine zg_invV_i (av := [.inl (2 : Int32)]) (st := []) (n := 1) dd_124_40 ca_2 zw_430 zw_432 zv_0 zCs_0 zcl_11 rfl (mt_fc_T_refuse e30) rfl ⟨by decide +kernel, by decide⟩ (Nat.le_of_ble_eq_true rfl) ?_
          obtain rfl := Option.some.inj h
          exact zg_iret dd_124_43 rfl
    · replace h := z_t h q8
      refine zg_aload_n dd_124_14 rfl (j := 0) rfl ?_
      refine zg_iconst dd_124_15 kI_1 ?_
      obtain ⟨r31, e32, h⟩ := z_bd h
      refine zg_invV_i (av := [.inl (1 : Int32)]) (st := []) (n := 1) dd_124_16 ca_2 zw_430 zw_432 zv_0 zCs_0 zcl_11 rfl (mt_fc_T_refuse e32) rfl ⟨by decide +kernel, by decide⟩ (Nat.le_of_ble_eq_true rfl) ?_
      obtain rfl := Option.some.inj h
      exact zg_iret dd_124_19 rfl
/-! TurnedLand.joins(0, None) -/
def fc_T_joins_L40 (w2 : Nat) : Nat → Int32 → Int32 → Int32 → zI → Option (Int32 × zI)
  | 0, _, _, _, _ => none
  | nf + 1, v1, v3, v4, I =>
    z_guard (zb v1 4) <|
    if (I 95 v1.toNatClampNeg) ≤ (v4 + (2 : Int32)) then
      some (v3, I)
    else
      z_guard (zb v4 24) <|
      z_guard (zb (v4 + (1 : Int32)) 24) <|
      z_guard (zb (v4 + (2 : Int32)) 24) <|
      (fc_Ground_joinError I (I w2 v4.toNatClampNeg) (I w2 (v4 + (1 : Int32)).toNatClampNeg) (I w2 (v4 + (2 : Int32)).toNatClampNeg)).bind fun r11 =>
      if r11 = 0 then
        (fc_Ground_addJoin I (I w2 v4.toNatClampNeg) (I w2 (v4 + (1 : Int32)).toNatClampNeg) (I w2 (v4 + (2 : Int32)).toNatClampNeg)).bind fun r14 =>
        fc_T_joins_L40 w2 nf v1 (v3 + (1 : Int32)) (v4 + (3 : Int32)) r14.2
      else
        some (v3, I)
def fc_T_joins (I : zI) (a1 : Int32) : Option (Int32 × zI) :=
  (fc_T_isSheet I a1).bind fun r1 =>
  if r1 = 0 then
    (fc_T_refuse I (1 : Int32)).bind fun r18 =>
    some (r18.1, r18.2)
  else
    z_guard (zb a1 4) <|
    if (I 94 a1.toNatClampNeg) = 0 then
      (fc_T_refuse I (2 : Int32)).bind fun r16 =>
      some (r16.1, r16.2)
    else
      fc_T_joins_L40 (97 + a1.toNatClampNeg)
        100 a1 (0 : Int32) (0 : Int32) I
set_option maxRecDepth 20000 in
theorem lt_fc_T_joins_L40 {w2 : Nat} (hw2 : zCs[w2]? = some (.inr (0, 24))) {res : (Int32 × zI)} : ∀ (nf : Nat) (v1 : Int32) (v3 : Int32) (v4 : Int32) (I : zI), fc_T_joins_L40 w2 nf v1 v3 v4 I = some res → zG 3 ym_126 0 0 (some (.inl res.1)) (zCs, zCr, res.2) zCs.length 40 [(0, .inr (.inr (some 0))), (1, .inl v1), (2, .inr (.inr (some w2))), (3, .inl v3), (4, .inl v4)] [] (zCs, zCr, I) 0 0 := by
  intro nf
  induction nf with
  | zero =>
    intro v1 v3 v4 I h
    have h2 : none = some res := h
    cases h2
  | succ nf ih =>
    intro v1 v3 v4 I h
    rw [fc_T_joins_L40] at h
    refine zg_iload dd_126_40 (j := 4) rfl ?_
    refine zg_iconst dd_126_42 kI_2 ?_
    refine zg_iadd dd_126_43 ?_
    refine zg_aload_n dd_126_44 rfl (j := 0) rfl ?_
    refine zg_getR dd_126_45 zl_T_30 zCs_0 rfl zCr_0_5 ?_
    refine zg_iload_n dd_126_48 rfl (j := 1) rfl ?_
    obtain ⟨g6, h⟩ := z_gd h
    refine zg_iald (w := (I 95 v1.toNatClampNeg)) dd_126_49 zCs_95 g6 rfl ?_
    refine zg_icmp_ge (tgt := 121) dd_126_50 (by decide) (fun q7 => ?_) (fun q7 => ?_)
    · replace h := z_t h q7
      refine zg_iload_n dd_126_121 rfl (j := 3) rfl ?_
      obtain rfl := Option.some.inj h
      exact zg_iret dd_126_122 rfl
    · replace h := z_f h q7
      refine zg_aload_n dd_126_53 rfl (j := 0) rfl ?_
      refine zg_getR dd_126_54 zl_T_12 zCs_0 rfl zCr_0_0 ?_
      refine zg_getR dd_126_57 zl_T_76 zCs_1 rfl zCr_1_0 ?_
      refine zg_aload_n dd_126_60 rfl (j := 2) rfl ?_
      refine zg_iload dd_126_61 (j := 4) rfl ?_
      obtain ⟨g8, h⟩ := z_gd h
      refine zg_iald (w := (I w2 v4.toNatClampNeg)) dd_126_63 hw2 g8 rfl ?_
      refine zg_aload_n dd_126_64 rfl (j := 2) rfl ?_
      refine zg_iload dd_126_65 (j := 4) rfl ?_
      refine zg_iconst dd_126_67 kI_1 ?_
      refine zg_iadd dd_126_68 ?_
      obtain ⟨g9, h⟩ := z_gd h
      refine zg_iald (w := (I w2 (v4 + (1 : Int32)).toNatClampNeg)) dd_126_69 hw2 g9 rfl ?_
      refine zg_aload_n dd_126_70 rfl (j := 2) rfl ?_
      refine zg_iload dd_126_71 (j := 4) rfl ?_
      refine zg_iconst dd_126_73 kI_2 ?_
      refine zg_iadd dd_126_74 ?_
      obtain ⟨g10, h⟩ := z_gd h
      refine zg_iald (w := (I w2 (v4 + (2 : Int32)).toNatClampNeg)) dd_126_75 hw2 g10 rfl ?_
      obtain ⟨r11, e12, h⟩ := z_bd h
      refine zg_invV_i (av := [.inl (I w2 v4.toNatClampNeg), .inl (I w2 (v4 + (1 : Int32)).toNatClampNeg), .inl (I w2 (v4 + (2 : Int32)).toNatClampNeg)]) (st := []) (n := 3) dd_126_76 ca_6 zw_448 zw_449 zw_450 zCs_2 zcl_2 rfl (mt_fc_Ground_joinError e12) rfl ⟨by decide +kernel, by decide⟩ (Nat.le_of_ble_eq_true rfl) ?_
      refine zg_if_eq (tgt := 85) dd_126_79 (by decide) (fun q13 => ?_) (fun q13 => ?_)
      · replace h := z_t h q13
        refine zg_aload_n dd_126_85 rfl (j := 0) rfl ?_
        refine zg_getR dd_126_86 zl_T_12 zCs_0 rfl zCr_0_0 ?_
        refine zg_getR dd_126_89 zl_T_76 zCs_1 rfl zCr_1_0 ?_
        refine zg_aload_n dd_126_92 rfl (j := 2) rfl ?_
        refine zg_iload dd_126_93 (j := 4) rfl ?_
        refine zg_iald (w := (I w2 v4.toNatClampNeg)) dd_126_95 hw2 g8 rfl ?_
        refine zg_aload_n dd_126_96 rfl (j := 2) rfl ?_
        refine zg_iload dd_126_97 (j := 4) rfl ?_
        refine zg_iconst dd_126_99 kI_1 ?_
        refine zg_iadd dd_126_100 ?_
        refine zg_iald (w := (I w2 (v4 + (1 : Int32)).toNatClampNeg)) dd_126_101 hw2 g9 rfl ?_
        refine zg_aload_n dd_126_102 rfl (j := 2) rfl ?_
        refine zg_iload dd_126_103 (j := 4) rfl ?_
        refine zg_iconst dd_126_105 kI_2 ?_
        refine zg_iadd dd_126_106 ?_
        refine zg_iald (w := (I w2 (v4 + (2 : Int32)).toNatClampNeg)) dd_126_107 hw2 g10 rfl ?_
        obtain ⟨r14, e15, h⟩ := z_bd h
        refine zg_invV_i (av := [.inl (I w2 v4.toNatClampNeg), .inl (I w2 (v4 + (1 : Int32)).toNatClampNeg), .inl (I w2 (v4 + (2 : Int32)).toNatClampNeg)]) (st := []) (n := 3) dd_126_108 ca_8 zw_456 zw_457 zw_458 zCs_2 zcl_2 rfl (mt_fc_Ground_addJoin e15) rfl ⟨by decide +kernel, by decide⟩ (Nat.le_of_ble_eq_true rfl) ?_
        refine zg_pop dd_126_111 rfl ?_
        refine zg_iinc dd_126_112 (j := 3) rfl (v := (v3 + (1 : Int32))) (by rw [kI_1]) (Nat.le_of_ble_eq_true rfl) (lv' := [(3, .inl (v3 + (1 : Int32))), (0, .inr (.inr (some 0))), (1, .inl v1), (2, .inr (.inr (some w2))), (4, .inl v4)]) rfl ?_
        refine zg_iinc dd_126_115 (j := 4) rfl (v := (v4 + (3 : Int32))) (by rw [kI_3]) (Nat.le_of_ble_eq_true rfl) (lv' := [(4, .inl (v4 + (3 : Int32))), (3, .inl (v3 + (1 : Int32))), (0, .inr (.inr (some 0))), (1, .inl v1), (2, .inr (.inr (some w2)))]) rfl ?_
        refine zg_goto (tgt := 40) dd_126_118 (by decide) ?_
        refine zg_sub [2, 3, 4, 1, 0] rfl ?_
        exact ih _ _ _ _ h
      · replace h := z_f h q13
        refine zg_goto (tgt := 121) dd_126_82 (by decide) ?_
        refine zg_iload_n dd_126_121 rfl (j := 3) rfl ?_
        obtain rfl := Option.some.inj h
        exact zg_iret dd_126_122 rfl
set_option maxRecDepth 20000 in
theorem mt_fc_T_joins {I : zI} {a1 : Int32} {res : (Int32 × zI)} (h : fc_T_joins I a1 = some res) : zM 3 ym_126 [.inr (.inr (some 0)), .inl a1] (zCs, zCr, I) (some (.inl res.1)) (zCs, zCr, res.2) 0 0 := by
  refine zM_of (by decide) (Nat.le_of_ble_eq_true rfl) (lv := [(0, .inr (.inr (some 0))), (1, .inl a1)]) rfl ?_
  rw [fc_T_joins] at h
  refine zg_iload_n dd_126_0 rfl (j := 1) rfl ?_
  obtain ⟨r1, e2, h⟩ := z_bd h
  refine zg_invS_i (av := [.inl a1]) (st := []) (n := 1) dd_126_1 ca_121 zw_943 zw_944 (mt_fc_T_isSheet e2) rfl ⟨by decide +kernel, by decide⟩ (Nat.le_of_ble_eq_true rfl) ?_
  refine zg_if_ne (tgt := 13) dd_126_4 (by decide) (fun q3 => ?_) (fun q3 => ?_)
  · replace h := z_f h q3
    refine zg_aload_n dd_126_13 rfl (j := 0) rfl ?_
    refine zg_getR dd_126_14 zl_T_27 zCs_0 rfl zCr_0_4 ?_
    refine zg_iload_n dd_126_17 rfl (j := 1) rfl ?_
    obtain ⟨g4, h⟩ := z_gd h
    refine zg_iald (w := (I 94 a1.toNatClampNeg)) dd_126_18 zCs_94 g4 rfl ?_
    refine zg_if_ne (tgt := 28) dd_126_19 (by decide) (fun q5 => ?_) (fun q5 => ?_)
    · replace h := z_f h q5
      refine zg_aload_n dd_126_28 rfl (j := 0) rfl ?_
      refine zg_getR dd_126_29 zl_T_35 zCs_0 rfl zCr_0_6 ?_
      refine zg_iload_n dd_126_32 rfl (j := 1) rfl ?_
      refine zg_aald1 dd_126_33 zCs_96 g4 (zrR_C_96 g4) ?_
      refine zg_astore_n dd_126_34 rfl (Nat.le_of_ble_eq_true rfl) (lv' := [(2, .inr (.inr (some (97 + a1.toNatClampNeg)))), (0, .inr (.inr (some 0))), (1, .inl a1)]) rfl ?_
      refine zg_iconst dd_126_35 kI_0 ?_
      refine zg_istore_n dd_126_36 rfl (Nat.le_of_ble_eq_true rfl) (lv' := [(3, .inl (0 : Int32)), (2, .inr (.inr (some (97 + a1.toNatClampNeg)))), (0, .inr (.inr (some 0))), (1, .inl a1)]) rfl ?_
      refine zg_iconst dd_126_37 kI_0 ?_
      refine zg_istore dd_126_38 (Nat.le_of_ble_eq_true rfl) (lv' := [(4, .inl (0 : Int32)), (3, .inl (0 : Int32)), (2, .inr (.inr (some (97 + a1.toNatClampNeg)))), (0, .inr (.inr (some 0))), (1, .inl a1)]) rfl ?_
      refine zg_sub [3, 4, 2, 1, 0] rfl ?_
      refine lt_fc_T_joins_L40 (zrS_C_96 g4)  _ _ _ _ _ h
    · replace h := z_t h q5
      refine zg_aload_n dd_126_22 rfl (j := 0) rfl ?_
      refine zg_iconst dd_126_23 kI_2 ?_
      obtain ⟨r16, e17, h⟩ := z_bd h
      refine zg_invV_i (av := [.inl (2 : Int32)]) (st := []) (n := 1) dd_126_24 ca_2 zw_430 zw_432 zv_0 zCs_0 zcl_11 rfl (mt_fc_T_refuse e17) rfl ⟨by decide +kernel, by decide⟩ (Nat.le_of_ble_eq_true rfl) ?_
      obtain rfl := Option.some.inj h
      exact zg_iret dd_126_27 rfl
  · replace h := z_t h q3
    refine zg_aload_n dd_126_7 rfl (j := 0) rfl ?_
    refine zg_iconst dd_126_8 kI_1 ?_
    obtain ⟨r18, e19, h⟩ := z_bd h
    refine zg_invV_i (av := [.inl (1 : Int32)]) (st := []) (n := 1) dd_126_9 ca_2 zw_430 zw_432 zv_0 zCs_0 zcl_11 rfl (mt_fc_T_refuse e19) rfl ⟨by decide +kernel, by decide⟩ (Nat.le_of_ble_eq_true rfl) ?_
    obtain rfl := Option.some.inj h
    exact zg_iret dd_126_12 rfl
/-! TurnedLand$Ground.takeOver[48, 2] -/
def fc_Ground_takeOver (I : zI) : Option zI :=
  some (zcopy (zcopy (zcopy (zup (zcopy (zup I 48 0 (I 2 0)) 3 49 (0 : Int32) (0 : Int32) (8 : Int32)) 48 2 ((zcopy (zup I 48 0 (I 2 0)) 3 49 (0 : Int32) (0 : Int32) (8 : Int32)) 2 2)) 4 50 (0 : Int32) (0 : Int32) (32 : Int32)) 5 51 (0 : Int32) (0 : Int32) (16 : Int32)) 6 52 (0 : Int32) (0 : Int32) (32 : Int32))
set_option maxRecDepth 20000 in
theorem mt_fc_Ground_takeOver {I : zI} {res : zI} (h : fc_Ground_takeOver I = some res) : zM 1 ym_129 [.inr (.inr (some 48)), .inr (.inr (some 2))] (zCs, zCr, I) none (zCs, zCr, res) 0 0 := by
  refine zM_of (by decide) (Nat.le_of_ble_eq_true rfl) (lv := [(0, .inr (.inr (some 48))), (1, .inr (.inr (some 2)))]) rfl ?_
  rw [fc_Ground_takeOver] at h
  refine zg_aload_n dd_129_0 rfl (j := 0) rfl ?_
  refine zg_aload_n dd_129_1 rfl (j := 1) rfl ?_
  refine zg_getI (x := (I 2 0)) dd_129_2 zl_Ground_9 zCs_2 rfl rfl ?_
  refine zg_putI dd_129_5 zp_Ground_9 zCs_48 rfl (zSt_int _) ?_
  refine zg_aload_n dd_129_8 rfl (j := 1) rfl ?_
  refine zg_getR dd_129_9 zl_Ground_15 zCs_2 rfl zCr_2_1 ?_
  refine zg_iconst dd_129_12 kI_0 ?_
  refine zg_aload_n dd_129_13 rfl (j := 0) rfl ?_
  refine zg_getR dd_129_14 zl_Ground_15 zCs_48 rfl zCr_48_1 ?_
  refine zg_iconst dd_129_17 kI_0 ?_
  refine zg_bipush dd_129_18 kB_8 ?_
  refine zg_acopy dd_129_20 zw_979 zacw zCs_3 zCs_49 (by decide) (by first | decide | omega) (Nat.le_of_ble_eq_true rfl) ?_
  refine zg_aload_n dd_129_23 rfl (j := 0) rfl ?_
  refine zg_aload_n dd_129_24 rfl (j := 1) rfl ?_
  refine zg_getI (x := ((zcopy (zup I 48 0 (I 2 0)) 3 49 (0 : Int32) (0 : Int32) (8 : Int32)) 2 2)) dd_129_25 zl_Ground_19 zCs_2 rfl rfl ?_
  refine zg_putI dd_129_28 zp_Ground_19 zCs_48 rfl (zSt_int _) ?_
  refine zg_aload_n dd_129_31 rfl (j := 1) rfl ?_
  refine zg_getR dd_129_32 zl_Ground_22 zCs_2 rfl zCr_2_3 ?_
  refine zg_iconst dd_129_35 kI_0 ?_
  refine zg_aload_n dd_129_36 rfl (j := 0) rfl ?_
  refine zg_getR dd_129_37 zl_Ground_22 zCs_48 rfl zCr_48_3 ?_
  refine zg_iconst dd_129_40 kI_0 ?_
  refine zg_bipush dd_129_41 kB_32 ?_
  refine zg_acopy dd_129_43 zw_979 zacw zCs_4 zCs_50 (by decide) (by first | decide | omega) (Nat.le_of_ble_eq_true rfl) ?_
  refine zg_aload_n dd_129_46 rfl (j := 1) rfl ?_
  refine zg_getR dd_129_47 zl_Ground_25 zCs_2 rfl zCr_2_4 ?_
  refine zg_iconst dd_129_50 kI_0 ?_
  refine zg_aload_n dd_129_51 rfl (j := 0) rfl ?_
  refine zg_getR dd_129_52 zl_Ground_25 zCs_48 rfl zCr_48_4 ?_
  refine zg_iconst dd_129_55 kI_0 ?_
  refine zg_bipush dd_129_56 kB_16 ?_
  refine zg_acopy dd_129_58 zw_979 zacw zCs_5 zCs_51 (by decide) (by first | decide | omega) (Nat.le_of_ble_eq_true rfl) ?_
  refine zg_aload_n dd_129_61 rfl (j := 1) rfl ?_
  refine zg_getR dd_129_62 zl_Ground_28 zCs_2 rfl zCr_2_5 ?_
  refine zg_iconst dd_129_65 kI_0 ?_
  refine zg_aload_n dd_129_66 rfl (j := 0) rfl ?_
  refine zg_getR dd_129_67 zl_Ground_28 zCs_48 rfl zCr_48_5 ?_
  refine zg_iconst dd_129_70 kI_0 ?_
  refine zg_bipush dd_129_71 kB_32 ?_
  refine zg_acopy dd_129_73 zw_979 zacw zCs_6 zCs_52 (by decide) (by first | decide | omega) (Nat.le_of_ble_eq_true rfl) ?_
  obtain rfl := Option.some.inj h
  exact zg_vret dd_129_76 rfl
/-! TurnedLand$Walks.takeOver[53, 7] -/
def fc_Walks_takeOver_L70 : Nat → Int32 → zI → Option zI
  | 0, _, _ => none
  | nf + 1, v2, I =>
    if (10 : Int32) ≤ v2 then
      some I
    else
      z_guard (zb v2 10) <|
      fc_Walks_takeOver_L70 nf (v2 + (1 : Int32)) (zcopy I (13 + v2.toNatClampNeg) (59 + v2.toNatClampNeg) (0 : Int32) (0 : Int32) (8 : Int32))
def fc_Walks_takeOver (I : zI) : Option zI :=
  fc_Walks_takeOver_L70
    100 (0 : Int32) (zcopy (zcopy (zcopy (zcopy (zup I 53 0 (I 7 0)) 8 54 (0 : Int32) (0 : Int32) (10 : Int32)) 9 55 (0 : Int32) (0 : Int32) (10 : Int32)) 10 56 (0 : Int32) (0 : Int32) (10 : Int32)) 11 57 (0 : Int32) (0 : Int32) (10 : Int32))
set_option maxRecDepth 20000 in
theorem lt_fc_Walks_takeOver_L70 {res : zI} : ∀ (nf : Nat) (v2 : Int32) (I : zI), fc_Walks_takeOver_L70 nf v2 I = some res → zG 1 ym_130 0 0 none (zCs, zCr, res) zCs.length 70 [(0, .inr (.inr (some 53))), (1, .inr (.inr (some 7))), (2, .inl v2)] [] (zCs, zCr, I) 0 0 := by
  intro nf
  induction nf with
  | zero =>
    intro v2 I h
    have h2 : none = some res := h
    cases h2
  | succ nf ih =>
    intro v2 I h
    rw [fc_Walks_takeOver_L70] at h
    refine zg_iload_n dd_130_70 rfl (j := 2) rfl ?_
    refine zg_bipush dd_130_71 kB_10 ?_
    refine zg_icmp_ge (tgt := 101) dd_130_73 (by decide) (fun q1 => ?_) (fun q1 => ?_)
    · replace h := z_t h q1
      obtain rfl := Option.some.inj h
      exact zg_vret dd_130_101 rfl
    · replace h := z_f h q1
      refine zg_aload_n dd_130_76 rfl (j := 1) rfl ?_
      refine zg_getR dd_130_77 zl_Walks_30 zCs_7 rfl zCr_7_5 ?_
      refine zg_iload_n dd_130_80 rfl (j := 2) rfl ?_
      obtain ⟨g2, h⟩ := z_gd h
      refine zg_aald1 dd_130_81 zCs_12 g2 (zrR_C_12 g2) ?_
      refine zg_iconst dd_130_82 kI_0 ?_
      refine zg_aload_n dd_130_83 rfl (j := 0) rfl ?_
      refine zg_getR dd_130_84 zl_Walks_30 zCs_53 rfl zCr_53_5 ?_
      refine zg_iload_n dd_130_87 rfl (j := 2) rfl ?_
      refine zg_aald1 dd_130_88 zCs_58 g2 (zrR_C_58 g2) ?_
      refine zg_iconst dd_130_89 kI_0 ?_
      refine zg_bipush dd_130_90 kB_8 ?_
      refine zg_acopy dd_130_92 zw_984 zacw (zrS_C_12 g2) (zrS_C_58 g2) (by decide) (by first | decide | omega) (Nat.le_of_ble_eq_true rfl) ?_
      refine zg_iinc dd_130_95 (j := 2) rfl (v := (v2 + (1 : Int32))) (by rw [kI_1]) (Nat.le_of_ble_eq_true rfl) (lv' := [(2, .inl (v2 + (1 : Int32))), (0, .inr (.inr (some 53))), (1, .inr (.inr (some 7)))]) rfl ?_
      refine zg_goto (tgt := 70) dd_130_98 (by decide) ?_
      refine zg_sub [1, 2, 0] rfl ?_
      exact ih _ _ h
set_option maxRecDepth 20000 in
theorem mt_fc_Walks_takeOver {I : zI} {res : zI} (h : fc_Walks_takeOver I = some res) : zM 1 ym_130 [.inr (.inr (some 53)), .inr (.inr (some 7))] (zCs, zCr, I) none (zCs, zCr, res) 0 0 := by
  refine zM_of (by decide) (Nat.le_of_ble_eq_true rfl) (lv := [(0, .inr (.inr (some 53))), (1, .inr (.inr (some 7)))]) rfl ?_
  rw [fc_Walks_takeOver] at h
  refine zg_aload_n dd_130_0 rfl (j := 0) rfl ?_
  refine zg_aload_n dd_130_1 rfl (j := 1) rfl ?_
  refine zg_getI (x := (I 7 0)) dd_130_2 zl_Walks_9 zCs_7 rfl rfl ?_
  refine zg_putI dd_130_5 zp_Walks_9 zCs_53 rfl (zSt_int _) ?_
  refine zg_aload_n dd_130_8 rfl (j := 1) rfl ?_
  refine zg_getR dd_130_9 zl_Walks_15 zCs_7 rfl zCr_7_1 ?_
  refine zg_iconst dd_130_12 kI_0 ?_
  refine zg_aload_n dd_130_13 rfl (j := 0) rfl ?_
  refine zg_getR dd_130_14 zl_Walks_15 zCs_53 rfl zCr_53_1 ?_
  refine zg_iconst dd_130_17 kI_0 ?_
  refine zg_bipush dd_130_18 kB_10 ?_
  refine zg_acopy dd_130_20 zw_984 zacw zCs_8 zCs_54 (by decide) (by first | decide | omega) (Nat.le_of_ble_eq_true rfl) ?_
  refine zg_aload_n dd_130_23 rfl (j := 1) rfl ?_
  refine zg_getR dd_130_24 zl_Walks_19 zCs_7 rfl zCr_7_2 ?_
  refine zg_iconst dd_130_27 kI_0 ?_
  refine zg_aload_n dd_130_28 rfl (j := 0) rfl ?_
  refine zg_getR dd_130_29 zl_Walks_19 zCs_53 rfl zCr_53_2 ?_
  refine zg_iconst dd_130_32 kI_0 ?_
  refine zg_bipush dd_130_33 kB_10 ?_
  refine zg_acopy dd_130_35 zw_984 zacw zCs_9 zCs_55 (by decide) (by first | decide | omega) (Nat.le_of_ble_eq_true rfl) ?_
  refine zg_aload_n dd_130_38 rfl (j := 1) rfl ?_
  refine zg_getR dd_130_39 zl_Walks_22 zCs_7 rfl zCr_7_3 ?_
  refine zg_iconst dd_130_42 kI_0 ?_
  refine zg_aload_n dd_130_43 rfl (j := 0) rfl ?_
  refine zg_getR dd_130_44 zl_Walks_22 zCs_53 rfl zCr_53_3 ?_
  refine zg_iconst dd_130_47 kI_0 ?_
  refine zg_bipush dd_130_48 kB_10 ?_
  refine zg_acopy dd_130_50 zw_984 zacw zCs_10 zCs_56 (by decide) (by first | decide | omega) (Nat.le_of_ble_eq_true rfl) ?_
  refine zg_aload_n dd_130_53 rfl (j := 1) rfl ?_
  refine zg_getR dd_130_54 zl_Walks_25 zCs_7 rfl zCr_7_4 ?_
  refine zg_iconst dd_130_57 kI_0 ?_
  refine zg_aload_n dd_130_58 rfl (j := 0) rfl ?_
  refine zg_getR dd_130_59 zl_Walks_25 zCs_53 rfl zCr_53_4 ?_
  refine zg_iconst dd_130_62 kI_0 ?_
  refine zg_bipush dd_130_63 kB_10 ?_
  refine zg_acopy dd_130_65 zw_984 zacw zCs_11 zCs_57 (by decide) (by first | decide | omega) (Nat.le_of_ble_eq_true rfl) ?_
  refine zg_iconst dd_130_68 kI_0 ?_
  refine zg_istore_n dd_130_69 rfl (Nat.le_of_ble_eq_true rfl) (lv' := [(2, .inl (0 : Int32)), (0, .inr (.inr (some 53))), (1, .inr (.inr (some 7)))]) rfl ?_
  refine zg_sub [1, 2, 0] rfl ?_
  refine lt_fc_Walks_takeOver_L70  _ _ _ h
/-! TurnedLand$Folk.takeOver[69, 23] -/
def fc_Folk_takeOver (I : zI) : Option zI :=
  some (zcopy (zcopy (zcopy (zup (zcopy (zcopy (zup I 69 0 (I 23 0)) 24 70 (0 : Int32) (0 : Int32) (6 : Int32)) 25 71 (0 : Int32) (0 : Int32) (6 : Int32)) 69 3 ((zcopy (zcopy (zup I 69 0 (I 23 0)) 24 70 (0 : Int32) (0 : Int32) (6 : Int32)) 25 71 (0 : Int32) (0 : Int32) (6 : Int32)) 23 3)) 26 72 (0 : Int32) (0 : Int32) (6 : Int32)) 27 73 (0 : Int32) (0 : Int32) (6 : Int32)) 28 74 (0 : Int32) (0 : Int32) (6 : Int32))
set_option maxRecDepth 20000 in
theorem mt_fc_Folk_takeOver {I : zI} {res : zI} (h : fc_Folk_takeOver I = some res) : zM 1 ym_131 [.inr (.inr (some 69)), .inr (.inr (some 23))] (zCs, zCr, I) none (zCs, zCr, res) 0 0 := by
  refine zM_of (by decide) (Nat.le_of_ble_eq_true rfl) (lv := [(0, .inr (.inr (some 69))), (1, .inr (.inr (some 23)))]) rfl ?_
  rw [fc_Folk_takeOver] at h
  refine zg_aload_n dd_131_0 rfl (j := 0) rfl ?_
  refine zg_aload_n dd_131_1 rfl (j := 1) rfl ?_
  refine zg_getI (x := (I 23 0)) dd_131_2 zl_Folk_9 zCs_23 rfl rfl ?_
  refine zg_putI dd_131_5 zp_Folk_9 zCs_69 rfl (zSt_int _) ?_
  refine zg_aload_n dd_131_8 rfl (j := 1) rfl ?_
  refine zg_getR dd_131_9 zl_Folk_15 zCs_23 rfl zCr_23_1 ?_
  refine zg_iconst dd_131_12 kI_0 ?_
  refine zg_aload_n dd_131_13 rfl (j := 0) rfl ?_
  refine zg_getR dd_131_14 zl_Folk_15 zCs_69 rfl zCr_69_1 ?_
  refine zg_iconst dd_131_17 kI_0 ?_
  refine zg_bipush dd_131_18 kB_6 ?_
  refine zg_acopy dd_131_20 zw_989 zacw zCs_24 zCs_70 (by decide) (by first | decide | omega) (Nat.le_of_ble_eq_true rfl) ?_
  refine zg_aload_n dd_131_23 rfl (j := 1) rfl ?_
  refine zg_getR dd_131_24 zl_Folk_19 zCs_23 rfl zCr_23_2 ?_
  refine zg_iconst dd_131_27 kI_0 ?_
  refine zg_aload_n dd_131_28 rfl (j := 0) rfl ?_
  refine zg_getR dd_131_29 zl_Folk_19 zCs_69 rfl zCr_69_2 ?_
  refine zg_iconst dd_131_32 kI_0 ?_
  refine zg_bipush dd_131_33 kB_6 ?_
  refine zg_acopy dd_131_35 zw_989 zacw zCs_25 zCs_71 (by decide) (by first | decide | omega) (Nat.le_of_ble_eq_true rfl) ?_
  refine zg_aload_n dd_131_38 rfl (j := 0) rfl ?_
  refine zg_aload_n dd_131_39 rfl (j := 1) rfl ?_
  refine zg_getI (x := ((zcopy (zcopy (zup I 69 0 (I 23 0)) 24 70 (0 : Int32) (0 : Int32) (6 : Int32)) 25 71 (0 : Int32) (0 : Int32) (6 : Int32)) 23 3)) dd_131_40 zl_Folk_22 zCs_23 rfl rfl ?_
  refine zg_putI dd_131_43 zp_Folk_22 zCs_69 rfl (zSt_int _) ?_
  refine zg_aload_n dd_131_46 rfl (j := 1) rfl ?_
  refine zg_getR dd_131_47 zl_Folk_25 zCs_23 rfl zCr_23_4 ?_
  refine zg_iconst dd_131_50 kI_0 ?_
  refine zg_aload_n dd_131_51 rfl (j := 0) rfl ?_
  refine zg_getR dd_131_52 zl_Folk_25 zCs_69 rfl zCr_69_4 ?_
  refine zg_iconst dd_131_55 kI_0 ?_
  refine zg_bipush dd_131_56 kB_6 ?_
  refine zg_acopy dd_131_58 zw_989 zacw zCs_26 zCs_72 (by decide) (by first | decide | omega) (Nat.le_of_ble_eq_true rfl) ?_
  refine zg_aload_n dd_131_61 rfl (j := 1) rfl ?_
  refine zg_getR dd_131_62 zl_Folk_28 zCs_23 rfl zCr_23_5 ?_
  refine zg_iconst dd_131_65 kI_0 ?_
  refine zg_aload_n dd_131_66 rfl (j := 0) rfl ?_
  refine zg_getR dd_131_67 zl_Folk_28 zCs_69 rfl zCr_69_5 ?_
  refine zg_iconst dd_131_70 kI_0 ?_
  refine zg_bipush dd_131_71 kB_6 ?_
  refine zg_acopy dd_131_73 zw_989 zacw zCs_27 zCs_73 (by decide) (by first | decide | omega) (Nat.le_of_ble_eq_true rfl) ?_
  refine zg_aload_n dd_131_76 rfl (j := 1) rfl ?_
  refine zg_getR dd_131_77 zl_Folk_31 zCs_23 rfl zCr_23_6 ?_
  refine zg_iconst dd_131_80 kI_0 ?_
  refine zg_aload_n dd_131_81 rfl (j := 0) rfl ?_
  refine zg_getR dd_131_82 zl_Folk_31 zCs_69 rfl zCr_69_6 ?_
  refine zg_iconst dd_131_85 kI_0 ?_
  refine zg_bipush dd_131_86 kB_6 ?_
  refine zg_acopy dd_131_88 zw_989 zacw zCs_28 zCs_74 (by decide) (by first | decide | omega) (Nat.le_of_ble_eq_true rfl) ?_
  obtain rfl := Option.some.inj h
  exact zg_vret dd_131_91 rfl
/-! TurnedLand$Doubts.takeOver[75, 29] -/
def fc_Doubts_takeOver (I : zI) : Option zI :=
  some (zcopy (zcopy (zup (zup I 75 0 (I 29 0)) 75 1 (I 29 1)) 30 76 (0 : Int32) (0 : Int32) (12 : Int32)) 31 77 (0 : Int32) (0 : Int32) (12 : Int32))
set_option maxRecDepth 20000 in
theorem mt_fc_Doubts_takeOver {I : zI} {res : zI} (h : fc_Doubts_takeOver I = some res) : zM 1 ym_132 [.inr (.inr (some 75)), .inr (.inr (some 29))] (zCs, zCr, I) none (zCs, zCr, res) 0 0 := by
  refine zM_of (by decide) (Nat.le_of_ble_eq_true rfl) (lv := [(0, .inr (.inr (some 75))), (1, .inr (.inr (some 29)))]) rfl ?_
  rw [fc_Doubts_takeOver] at h
  refine zg_aload_n dd_132_0 rfl (j := 0) rfl ?_
  refine zg_aload_n dd_132_1 rfl (j := 1) rfl ?_
  refine zg_getI (x := (I 29 0)) dd_132_2 zl_Doubts_9 zCs_29 rfl rfl ?_
  refine zg_putI dd_132_5 zp_Doubts_9 zCs_75 rfl (zSt_int _) ?_
  refine zg_aload_n dd_132_8 rfl (j := 0) rfl ?_
  refine zg_aload_n dd_132_9 rfl (j := 1) rfl ?_
  refine zg_getI (x := (I 29 1)) dd_132_10 zl_Doubts_15 zCs_29 rfl rfl ?_
  refine zg_putI dd_132_13 zp_Doubts_15 zCs_75 rfl (zSt_int _) ?_
  refine zg_aload_n dd_132_16 rfl (j := 1) rfl ?_
  refine zg_getR dd_132_17 zl_Doubts_18 zCs_29 rfl zCr_29_2 ?_
  refine zg_iconst dd_132_20 kI_0 ?_
  refine zg_aload_n dd_132_21 rfl (j := 0) rfl ?_
  refine zg_getR dd_132_22 zl_Doubts_18 zCs_75 rfl zCr_75_2 ?_
  refine zg_iconst dd_132_25 kI_0 ?_
  refine zg_bipush dd_132_26 kB_12 ?_
  refine zg_acopy dd_132_28 zw_994 zacw zCs_30 zCs_76 (by decide) (by first | decide | omega) (Nat.le_of_ble_eq_true rfl) ?_
  refine zg_aload_n dd_132_31 rfl (j := 1) rfl ?_
  refine zg_getR dd_132_32 zl_Doubts_22 zCs_29 rfl zCr_29_3 ?_
  refine zg_iconst dd_132_35 kI_0 ?_
  refine zg_aload_n dd_132_36 rfl (j := 0) rfl ?_
  refine zg_getR dd_132_37 zl_Doubts_22 zCs_75 rfl zCr_75_3 ?_
  refine zg_iconst dd_132_40 kI_0 ?_
  refine zg_bipush dd_132_41 kB_12 ?_
  refine zg_acopy dd_132_43 zw_994 zacw zCs_31 zCs_77 (by decide) (by first | decide | omega) (Nat.le_of_ble_eq_true rfl) ?_
  obtain rfl := Option.some.inj h
  exact zg_vret dd_132_46 rfl
/-! TurnedLand$Text.takeOver[81, 35] -/
def fc_Text_takeOver (I : zI) : Option zI :=
  z_guard (zbb (I 35 0)) <|
  some (zcopy (zcopy (zup (zup I 81 0 (I 35 0)) 81 1 (I 35 1)) 36 82 (0 : Int32) (0 : Int32) (60 : Int32)) 37 83 (0 : Int32) (0 : Int32) (60 : Int32))
set_option maxRecDepth 20000 in
theorem mt_fc_Text_takeOver {I : zI} {res : zI} (h : fc_Text_takeOver I = some res) : zM 1 ym_133 [.inr (.inr (some 81)), .inr (.inr (some 35))] (zCs, zCr, I) none (zCs, zCr, res) 0 0 := by
  refine zM_of (by decide) (Nat.le_of_ble_eq_true rfl) (lv := [(0, .inr (.inr (some 81))), (1, .inr (.inr (some 35)))]) rfl ?_
  rw [fc_Text_takeOver] at h
  refine zg_aload_n dd_133_0 rfl (j := 0) rfl ?_
  refine zg_aload_n dd_133_1 rfl (j := 1) rfl ?_
  refine zg_getI (x := (I 35 0)) dd_133_2 zl_Text_9 zCs_35 rfl rfl ?_
  obtain ⟨g1, h⟩ := z_gd h
  refine zg_putI dd_133_5 zp_Text_9 zCs_81 rfl (zSt_bb g1) ?_
  refine zg_aload_n dd_133_8 rfl (j := 0) rfl ?_
  refine zg_aload_n dd_133_9 rfl (j := 1) rfl ?_
  refine zg_getI (x := (I 35 1)) dd_133_10 zl_Text_15 zCs_35 rfl rfl ?_
  refine zg_putI dd_133_13 zp_Text_15 zCs_81 rfl (zSt_int _) ?_
  refine zg_aload_n dd_133_16 rfl (j := 1) rfl ?_
  refine zg_getR dd_133_17 zl_Text_19 zCs_35 rfl zCr_35_2 ?_
  refine zg_iconst dd_133_20 kI_0 ?_
  refine zg_aload_n dd_133_21 rfl (j := 0) rfl ?_
  refine zg_getR dd_133_22 zl_Text_19 zCs_81 rfl zCr_81_2 ?_
  refine zg_iconst dd_133_25 kI_0 ?_
  refine zg_bipush dd_133_26 kB_60 ?_
  refine zg_acopy dd_133_28 zw_622 zacw zCs_36 zCs_82 (by decide) (by first | decide | omega) (Nat.le_of_ble_eq_true rfl) ?_
  refine zg_aload_n dd_133_31 rfl (j := 1) rfl ?_
  refine zg_getR dd_133_32 zl_Text_23 zCs_35 rfl zCr_35_3 ?_
  refine zg_iconst dd_133_35 kI_0 ?_
  refine zg_aload_n dd_133_36 rfl (j := 0) rfl ?_
  refine zg_getR dd_133_37 zl_Text_23 zCs_81 rfl zCr_81_3 ?_
  refine zg_iconst dd_133_40 kI_0 ?_
  refine zg_bipush dd_133_41 kB_60 ?_
  refine zg_acopy dd_133_43 zw_622 zacw zCs_37 zCs_83 (by decide) (by first | decide | omega) (Nat.le_of_ble_eq_true rfl) ?_
  obtain rfl := Option.some.inj h
  exact zg_vret dd_133_46 rfl
/-! TurnedLand$Text.takeOver[86, 40] -/
def fc_Text_takeOver_2 (I : zI) : Option zI :=
  z_guard (zbb (I 40 0)) <|
  some (zcopy (zcopy (zup (zup I 86 0 (I 40 0)) 86 1 (I 40 1)) 41 87 (0 : Int32) (0 : Int32) (60 : Int32)) 42 88 (0 : Int32) (0 : Int32) (60 : Int32))
set_option maxRecDepth 20000 in
theorem mt_fc_Text_takeOver_2 {I : zI} {res : zI} (h : fc_Text_takeOver_2 I = some res) : zM 1 ym_133 [.inr (.inr (some 86)), .inr (.inr (some 40))] (zCs, zCr, I) none (zCs, zCr, res) 0 0 := by
  refine zM_of (by decide) (Nat.le_of_ble_eq_true rfl) (lv := [(0, .inr (.inr (some 86))), (1, .inr (.inr (some 40)))]) rfl ?_
  rw [fc_Text_takeOver_2] at h
  refine zg_aload_n dd_133_0 rfl (j := 0) rfl ?_
  refine zg_aload_n dd_133_1 rfl (j := 1) rfl ?_
  refine zg_getI (x := (I 40 0)) dd_133_2 zl_Text_9 zCs_40 rfl rfl ?_
  obtain ⟨g1, h⟩ := z_gd h
  refine zg_putI dd_133_5 zp_Text_9 zCs_86 rfl (zSt_bb g1) ?_
  refine zg_aload_n dd_133_8 rfl (j := 0) rfl ?_
  refine zg_aload_n dd_133_9 rfl (j := 1) rfl ?_
  refine zg_getI (x := (I 40 1)) dd_133_10 zl_Text_15 zCs_40 rfl rfl ?_
  refine zg_putI dd_133_13 zp_Text_15 zCs_86 rfl (zSt_int _) ?_
  refine zg_aload_n dd_133_16 rfl (j := 1) rfl ?_
  refine zg_getR dd_133_17 zl_Text_19 zCs_40 rfl zCr_40_2 ?_
  refine zg_iconst dd_133_20 kI_0 ?_
  refine zg_aload_n dd_133_21 rfl (j := 0) rfl ?_
  refine zg_getR dd_133_22 zl_Text_19 zCs_86 rfl zCr_86_2 ?_
  refine zg_iconst dd_133_25 kI_0 ?_
  refine zg_bipush dd_133_26 kB_60 ?_
  refine zg_acopy dd_133_28 zw_622 zacw zCs_41 zCs_87 (by decide) (by first | decide | omega) (Nat.le_of_ble_eq_true rfl) ?_
  refine zg_aload_n dd_133_31 rfl (j := 1) rfl ?_
  refine zg_getR dd_133_32 zl_Text_23 zCs_40 rfl zCr_40_3 ?_
  refine zg_iconst dd_133_35 kI_0 ?_
  refine zg_aload_n dd_133_36 rfl (j := 0) rfl ?_
  refine zg_getR dd_133_37 zl_Text_23 zCs_86 rfl zCr_86_3 ?_
  refine zg_iconst dd_133_40 kI_0 ?_
  refine zg_bipush dd_133_41 kB_60 ?_
  refine zg_acopy dd_133_43 zw_622 zacw zCs_42 zCs_88 (by decide) (by first | decide | omega) (Nat.le_of_ble_eq_true rfl) ?_
  obtain rfl := Option.some.inj h
  exact zg_vret dd_133_46 rfl
/-! TurnedLand$World.takeOver[47, 1] -/
def fc_World_takeOver (I : zI) : Option zI :=
  (fc_Ground_takeOver I).bind fun r1 =>
  (fc_Walks_takeOver r1).bind fun r3 =>
  (fc_Folk_takeOver r3).bind fun r5 =>
  (fc_Doubts_takeOver r5).bind fun r7 =>
  (fc_Text_takeOver r7).bind fun r9 =>
  (fc_Text_takeOver_2 r9).bind fun r11 =>
  some (zup (zup (zcopy (zup (zcopy r11 45 91 (0 : Int32) (0 : Int32) (60 : Int32)) 47 7 ((zcopy r11 45 91 (0 : Int32) (0 : Int32) (60 : Int32)) 1 7)) 46 92 (0 : Int32) (0 : Int32) (24 : Int32)) 47 9 ((zcopy (zup (zcopy r11 45 91 (0 : Int32) (0 : Int32) (60 : Int32)) 47 7 ((zcopy r11 45 91 (0 : Int32) (0 : Int32) (60 : Int32)) 1 7)) 46 92 (0 : Int32) (0 : Int32) (24 : Int32)) 1 9)) 47 10 ((zcopy (zup (zcopy r11 45 91 (0 : Int32) (0 : Int32) (60 : Int32)) 47 7 ((zcopy r11 45 91 (0 : Int32) (0 : Int32) (60 : Int32)) 1 7)) 46 92 (0 : Int32) (0 : Int32) (24 : Int32)) 1 10))
set_option maxRecDepth 20000 in
theorem mt_fc_World_takeOver {I : zI} {res : zI} (h : fc_World_takeOver I = some res) : zM 2 ym_128 [.inr (.inr (some 47)), .inr (.inr (some 1))] (zCs, zCr, I) none (zCs, zCr, res) 0 0 := by
  refine zM_of (by decide) (Nat.le_of_ble_eq_true rfl) (lv := [(0, .inr (.inr (some 47))), (1, .inr (.inr (some 1)))]) rfl ?_
  rw [fc_World_takeOver] at h
  refine zg_aload_n dd_128_0 rfl (j := 0) rfl ?_
  refine zg_getR dd_128_1 zl_World_12 zCs_47 rfl zCr_47_0 ?_
  refine zg_aload_n dd_128_4 rfl (j := 1) rfl ?_
  refine zg_getR dd_128_5 zl_World_12 zCs_1 rfl zCr_1_0 ?_
  obtain ⟨r1, e2, h⟩ := z_bd h
  refine zg_invV_v (av := [.inr (.inr (some 2))]) (st := []) (n := 1) dd_128_8 ca_129 zw_975 zw_976 zw_977 zCs_48 zcl_2 rfl (mt_fc_Ground_takeOver e2) rfl ⟨by decide +kernel, by decide⟩ (Nat.le_of_ble_eq_true rfl) ?_
  refine zg_aload_n dd_128_11 rfl (j := 0) rfl ?_
  refine zg_getR dd_128_12 zl_World_21 zCs_47 rfl zCr_47_1 ?_
  refine zg_aload_n dd_128_15 rfl (j := 1) rfl ?_
  refine zg_getR dd_128_16 zl_World_21 zCs_1 rfl zCr_1_1 ?_
  obtain ⟨r3, e4, h⟩ := z_bd h
  refine zg_invV_v (av := [.inr (.inr (some 7))]) (st := []) (n := 1) dd_128_19 ca_130 zw_980 zw_981 zw_982 zCs_53 zcl_8 rfl (mt_fc_Walks_takeOver e4) rfl ⟨by decide +kernel, by decide⟩ (Nat.le_of_ble_eq_true rfl) ?_
  refine zg_aload_n dd_128_22 rfl (j := 0) rfl ?_
  refine zg_getR dd_128_23 zl_World_28 zCs_47 rfl zCr_47_2 ?_
  refine zg_aload_n dd_128_26 rfl (j := 1) rfl ?_
  refine zg_getR dd_128_27 zl_World_28 zCs_1 rfl zCr_1_2 ?_
  obtain ⟨r5, e6, h⟩ := z_bd h
  refine zg_invV_v (av := [.inr (.inr (some 23))]) (st := []) (n := 1) dd_128_30 ca_131 zw_985 zw_986 zw_987 zCs_69 zcl_1 rfl (mt_fc_Folk_takeOver e6) rfl ⟨by decide +kernel, by decide⟩ (Nat.le_of_ble_eq_true rfl) ?_
  refine zg_aload_n dd_128_33 rfl (j := 0) rfl ?_
  refine zg_getR dd_128_34 zl_World_35 zCs_47 rfl zCr_47_3 ?_
  refine zg_aload_n dd_128_37 rfl (j := 1) rfl ?_
  refine zg_getR dd_128_38 zl_World_35 zCs_1 rfl zCr_1_3 ?_
  obtain ⟨r7, e8, h⟩ := z_bd h
  refine zg_invV_v (av := [.inr (.inr (some 29))]) (st := []) (n := 1) dd_128_41 ca_132 zw_990 zw_991 zw_992 zCs_75 zcl_0 rfl (mt_fc_Doubts_takeOver e8) rfl ⟨by decide +kernel, by decide⟩ (Nat.le_of_ble_eq_true rfl) ?_
  refine zg_aload_n dd_128_44 rfl (j := 0) rfl ?_
  refine zg_getR dd_128_45 zl_World_42 zCs_47 rfl zCr_47_4 ?_
  refine zg_aload_n dd_128_48 rfl (j := 1) rfl ?_
  refine zg_getR dd_128_49 zl_World_42 zCs_1 rfl zCr_1_4 ?_
  obtain ⟨r9, e10, h⟩ := z_bd h
  refine zg_invV_v (av := [.inr (.inr (some 35))]) (st := []) (n := 1) dd_128_52 ca_133 zw_995 zw_996 zw_997 zCs_81 zcl_5 rfl (mt_fc_Text_takeOver e10) rfl ⟨by decide +kernel, by decide⟩ (Nat.le_of_ble_eq_true rfl) ?_
  refine zg_aload_n dd_128_55 rfl (j := 0) rfl ?_
  refine zg_getR dd_128_56 zl_World_46 zCs_47 rfl zCr_47_5 ?_
  refine zg_aload_n dd_128_59 rfl (j := 1) rfl ?_
  refine zg_getR dd_128_60 zl_World_46 zCs_1 rfl zCr_1_5 ?_
  obtain ⟨r11, e12, h⟩ := z_bd h
  refine zg_invV_v (av := [.inr (.inr (some 40))]) (st := []) (n := 1) dd_128_63 ca_133 zw_995 zw_996 zw_997 zCs_86 zcl_5 rfl (mt_fc_Text_takeOver_2 e12) rfl ⟨by decide +kernel, by decide⟩ (Nat.le_of_ble_eq_true rfl) ?_
  refine zg_aload_n dd_128_66 rfl (j := 1) rfl ?_
  refine zg_getR dd_128_67 zl_World_49 zCs_1 rfl zCr_1_6 ?_
  refine zg_iconst dd_128_70 kI_0 ?_
  refine zg_aload_n dd_128_71 rfl (j := 0) rfl ?_
  refine zg_getR dd_128_72 zl_World_49 zCs_47 rfl zCr_47_6 ?_
  refine zg_iconst dd_128_75 kI_0 ?_
  refine zg_bipush dd_128_76 kB_60 ?_
  refine zg_acopy dd_128_78 zw_999 zacw zCs_45 zCs_91 (by decide) (by first | decide | omega) (Nat.le_of_ble_eq_true rfl) ?_
  refine zg_aload_n dd_128_81 rfl (j := 0) rfl ?_
  refine zg_aload_n dd_128_82 rfl (j := 1) rfl ?_
  refine zg_getI (x := ((zcopy r11 45 91 (0 : Int32) (0 : Int32) (60 : Int32)) 1 7)) dd_128_83 zl_World_53 zCs_1 rfl rfl ?_
  refine zg_putI dd_128_86 zp_World_53 zCs_47 rfl (zSt_int _) ?_
  refine zg_aload_n dd_128_89 rfl (j := 1) rfl ?_
  refine zg_getR dd_128_90 zl_World_57 zCs_1 rfl zCr_1_8 ?_
  refine zg_iconst dd_128_93 kI_0 ?_
  refine zg_aload_n dd_128_94 rfl (j := 0) rfl ?_
  refine zg_getR dd_128_95 zl_World_57 zCs_47 rfl zCr_47_8 ?_
  refine zg_iconst dd_128_98 kI_0 ?_
  refine zg_bipush dd_128_99 kB_24 ?_
  refine zg_acopy dd_128_101 zw_999 zacw zCs_46 zCs_92 (by decide) (by first | decide | omega) (Nat.le_of_ble_eq_true rfl) ?_
  refine zg_aload_n dd_128_104 rfl (j := 0) rfl ?_
  refine zg_aload_n dd_128_105 rfl (j := 1) rfl ?_
  refine zg_getI (x := ((zcopy (zup (zcopy r11 45 91 (0 : Int32) (0 : Int32) (60 : Int32)) 47 7 ((zcopy r11 45 91 (0 : Int32) (0 : Int32) (60 : Int32)) 1 7)) 46 92 (0 : Int32) (0 : Int32) (24 : Int32)) 1 9)) dd_128_106 zl_World_60 zCs_1 rfl rfl ?_
  refine zg_putI dd_128_109 zp_World_60 zCs_47 rfl (zSt_int _) ?_
  refine zg_aload_n dd_128_112 rfl (j := 0) rfl ?_
  refine zg_aload_n dd_128_113 rfl (j := 1) rfl ?_
  refine zg_getI (x := ((zcopy (zup (zcopy r11 45 91 (0 : Int32) (0 : Int32) (60 : Int32)) 47 7 ((zcopy r11 45 91 (0 : Int32) (0 : Int32) (60 : Int32)) 1 7)) 46 92 (0 : Int32) (0 : Int32) (24 : Int32)) 1 10)) dd_128_114 zl_World_63 zCs_1 rfl rfl ?_
  refine zg_putI dd_128_117 zp_World_63 zCs_47 rfl (zSt_int _) ?_
  obtain rfl := Option.some.inj h
  exact zg_vret dd_128_120 rfl
/-! TurnedLand.image(0,) -/
def fc_T_image (I : zI) : Option (Int32 × zI) :=
  (fc_World_takeOver I).bind fun r1 =>
  some (((r1 0 2) + (1 : Int32)), (zup r1 0 2 ((r1 0 2) + (1 : Int32))))
set_option maxRecDepth 20000 in
theorem mt_fc_T_image {I : zI} {res : (Int32 × zI)} (h : fc_T_image I = some res) : zM 3 ym_127 [.inr (.inr (some 0))] (zCs, zCr, I) (some (.inl res.1)) (zCs, zCr, res.2) 0 0 := by
  refine zM_of (by decide) (Nat.le_of_ble_eq_true rfl) (lv := [(0, .inr (.inr (some 0)))]) rfl ?_
  rw [fc_T_image] at h
  refine zg_aload_n dd_127_0 rfl (j := 0) rfl ?_
  refine zg_getR dd_127_1 zl_T_16 zCs_0 rfl zCr_0_1 ?_
  refine zg_aload_n dd_127_4 rfl (j := 0) rfl ?_
  refine zg_getR dd_127_5 zl_T_12 zCs_0 rfl zCr_0_0 ?_
  obtain ⟨r1, e2, h⟩ := z_bd h
  refine zg_invV_v (av := [.inr (.inr (some 1))]) (st := []) (n := 1) dd_127_8 ca_128 zw_971 zw_972 zw_973 zCs_47 zcl_10 rfl (mt_fc_World_takeOver e2) rfl ⟨by decide +kernel, by decide⟩ (Nat.le_of_ble_eq_true rfl) ?_
  refine zg_aload_n dd_127_11 rfl (j := 0) rfl ?_
  refine zg_dup dd_127_12 rfl ?_
  refine zg_getI (x := (r1 0 2)) dd_127_13 zl_T_19 zCs_0 rfl rfl ?_
  refine zg_iconst dd_127_16 kI_1 ?_
  refine zg_iadd dd_127_17 ?_
  refine zg_putI dd_127_18 zp_T_19 zCs_0 rfl (zSt_int _) ?_
  refine zg_aload_n dd_127_21 rfl (j := 0) rfl ?_
  refine zg_getI (x := ((r1 0 2) + (1 : Int32))) dd_127_22 zl_T_19 zCs_0 rfl rfl ?_
  obtain rfl := Option.some.inj h
  exact zg_iret dd_127_25 rfl
/-! TurnedLand$Ground.takeOver[2, 48] -/
def fc_Ground_takeOver_2 (I : zI) : Option zI :=
  some (zcopy (zcopy (zcopy (zup (zcopy (zup I 2 0 (I 48 0)) 49 3 (0 : Int32) (0 : Int32) (8 : Int32)) 2 2 ((zcopy (zup I 2 0 (I 48 0)) 49 3 (0 : Int32) (0 : Int32) (8 : Int32)) 48 2)) 50 4 (0 : Int32) (0 : Int32) (32 : Int32)) 51 5 (0 : Int32) (0 : Int32) (16 : Int32)) 52 6 (0 : Int32) (0 : Int32) (32 : Int32))
set_option maxRecDepth 20000 in
theorem mt_fc_Ground_takeOver_2 {I : zI} {res : zI} (h : fc_Ground_takeOver_2 I = some res) : zM 1 ym_129 [.inr (.inr (some 2)), .inr (.inr (some 48))] (zCs, zCr, I) none (zCs, zCr, res) 0 0 := by
  refine zM_of (by decide) (Nat.le_of_ble_eq_true rfl) (lv := [(0, .inr (.inr (some 2))), (1, .inr (.inr (some 48)))]) rfl ?_
  rw [fc_Ground_takeOver_2] at h
  refine zg_aload_n dd_129_0 rfl (j := 0) rfl ?_
  refine zg_aload_n dd_129_1 rfl (j := 1) rfl ?_
  refine zg_getI (x := (I 48 0)) dd_129_2 zl_Ground_9 zCs_48 rfl rfl ?_
  refine zg_putI dd_129_5 zp_Ground_9 zCs_2 rfl (zSt_int _) ?_
  refine zg_aload_n dd_129_8 rfl (j := 1) rfl ?_
  refine zg_getR dd_129_9 zl_Ground_15 zCs_48 rfl zCr_48_1 ?_
  refine zg_iconst dd_129_12 kI_0 ?_
  refine zg_aload_n dd_129_13 rfl (j := 0) rfl ?_
  refine zg_getR dd_129_14 zl_Ground_15 zCs_2 rfl zCr_2_1 ?_
  refine zg_iconst dd_129_17 kI_0 ?_
  refine zg_bipush dd_129_18 kB_8 ?_
  refine zg_acopy dd_129_20 zw_979 zacw zCs_49 zCs_3 (by decide) (by first | decide | omega) (Nat.le_of_ble_eq_true rfl) ?_
  refine zg_aload_n dd_129_23 rfl (j := 0) rfl ?_
  refine zg_aload_n dd_129_24 rfl (j := 1) rfl ?_
  refine zg_getI (x := ((zcopy (zup I 2 0 (I 48 0)) 49 3 (0 : Int32) (0 : Int32) (8 : Int32)) 48 2)) dd_129_25 zl_Ground_19 zCs_48 rfl rfl ?_
  refine zg_putI dd_129_28 zp_Ground_19 zCs_2 rfl (zSt_int _) ?_
  refine zg_aload_n dd_129_31 rfl (j := 1) rfl ?_
  refine zg_getR dd_129_32 zl_Ground_22 zCs_48 rfl zCr_48_3 ?_
  refine zg_iconst dd_129_35 kI_0 ?_
  refine zg_aload_n dd_129_36 rfl (j := 0) rfl ?_
  refine zg_getR dd_129_37 zl_Ground_22 zCs_2 rfl zCr_2_3 ?_
  refine zg_iconst dd_129_40 kI_0 ?_
  refine zg_bipush dd_129_41 kB_32 ?_
  refine zg_acopy dd_129_43 zw_979 zacw zCs_50 zCs_4 (by decide) (by first | decide | omega) (Nat.le_of_ble_eq_true rfl) ?_
  refine zg_aload_n dd_129_46 rfl (j := 1) rfl ?_
  refine zg_getR dd_129_47 zl_Ground_25 zCs_48 rfl zCr_48_4 ?_
  refine zg_iconst dd_129_50 kI_0 ?_
  refine zg_aload_n dd_129_51 rfl (j := 0) rfl ?_
  refine zg_getR dd_129_52 zl_Ground_25 zCs_2 rfl zCr_2_4 ?_
  refine zg_iconst dd_129_55 kI_0 ?_
  refine zg_bipush dd_129_56 kB_16 ?_
  refine zg_acopy dd_129_58 zw_979 zacw zCs_51 zCs_5 (by decide) (by first | decide | omega) (Nat.le_of_ble_eq_true rfl) ?_
  refine zg_aload_n dd_129_61 rfl (j := 1) rfl ?_
  refine zg_getR dd_129_62 zl_Ground_28 zCs_48 rfl zCr_48_5 ?_
  refine zg_iconst dd_129_65 kI_0 ?_
  refine zg_aload_n dd_129_66 rfl (j := 0) rfl ?_
  refine zg_getR dd_129_67 zl_Ground_28 zCs_2 rfl zCr_2_5 ?_
  refine zg_iconst dd_129_70 kI_0 ?_
  refine zg_bipush dd_129_71 kB_32 ?_
  refine zg_acopy dd_129_73 zw_979 zacw zCs_52 zCs_6 (by decide) (by first | decide | omega) (Nat.le_of_ble_eq_true rfl) ?_
  obtain rfl := Option.some.inj h
  exact zg_vret dd_129_76 rfl
/-! TurnedLand$Walks.takeOver[7, 53] -/
def fc_Walks_takeOver_2_L70 : Nat → Int32 → zI → Option zI
  | 0, _, _ => none
  | nf + 1, v2, I =>
    if (10 : Int32) ≤ v2 then
      some I
    else
      z_guard (zb v2 10) <|
      fc_Walks_takeOver_2_L70 nf (v2 + (1 : Int32)) (zcopy I (59 + v2.toNatClampNeg) (13 + v2.toNatClampNeg) (0 : Int32) (0 : Int32) (8 : Int32))
def fc_Walks_takeOver_2 (I : zI) : Option zI :=
  fc_Walks_takeOver_2_L70
    100 (0 : Int32) (zcopy (zcopy (zcopy (zcopy (zup I 7 0 (I 53 0)) 54 8 (0 : Int32) (0 : Int32) (10 : Int32)) 55 9 (0 : Int32) (0 : Int32) (10 : Int32)) 56 10 (0 : Int32) (0 : Int32) (10 : Int32)) 57 11 (0 : Int32) (0 : Int32) (10 : Int32))
set_option maxRecDepth 20000 in
theorem lt_fc_Walks_takeOver_2_L70 {res : zI} : ∀ (nf : Nat) (v2 : Int32) (I : zI), fc_Walks_takeOver_2_L70 nf v2 I = some res → zG 1 ym_130 0 0 none (zCs, zCr, res) zCs.length 70 [(0, .inr (.inr (some 7))), (1, .inr (.inr (some 53))), (2, .inl v2)] [] (zCs, zCr, I) 0 0 := by
  intro nf
  induction nf with
  | zero =>
    intro v2 I h
    have h2 : none = some res := h
    cases h2
  | succ nf ih =>
    intro v2 I h
    rw [fc_Walks_takeOver_2_L70] at h
    refine zg_iload_n dd_130_70 rfl (j := 2) rfl ?_
    refine zg_bipush dd_130_71 kB_10 ?_
    refine zg_icmp_ge (tgt := 101) dd_130_73 (by decide) (fun q1 => ?_) (fun q1 => ?_)
    · replace h := z_t h q1
      obtain rfl := Option.some.inj h
      exact zg_vret dd_130_101 rfl
    · replace h := z_f h q1
      refine zg_aload_n dd_130_76 rfl (j := 1) rfl ?_
      refine zg_getR dd_130_77 zl_Walks_30 zCs_53 rfl zCr_53_5 ?_
      refine zg_iload_n dd_130_80 rfl (j := 2) rfl ?_
      obtain ⟨g2, h⟩ := z_gd h
      refine zg_aald1 dd_130_81 zCs_58 g2 (zrR_C_58 g2) ?_
      refine zg_iconst dd_130_82 kI_0 ?_
      refine zg_aload_n dd_130_83 rfl (j := 0) rfl ?_
      refine zg_getR dd_130_84 zl_Walks_30 zCs_7 rfl zCr_7_5 ?_
      refine zg_iload_n dd_130_87 rfl (j := 2) rfl ?_
      refine zg_aald1 dd_130_88 zCs_12 g2 (zrR_C_12 g2) ?_
      refine zg_iconst dd_130_89 kI_0 ?_
      refine zg_bipush dd_130_90 kB_8 ?_
      refine zg_acopy dd_130_92 zw_984 zacw (zrS_C_58 g2) (zrS_C_12 g2) (by decide) (by first | decide | omega) (Nat.le_of_ble_eq_true rfl) ?_
      refine zg_iinc dd_130_95 (j := 2) rfl (v := (v2 + (1 : Int32))) (by rw [kI_1]) (Nat.le_of_ble_eq_true rfl) (lv' := [(2, .inl (v2 + (1 : Int32))), (0, .inr (.inr (some 7))), (1, .inr (.inr (some 53)))]) rfl ?_
      refine zg_goto (tgt := 70) dd_130_98 (by decide) ?_
      refine zg_sub [1, 2, 0] rfl ?_
      exact ih _ _ h
set_option maxRecDepth 20000 in
theorem mt_fc_Walks_takeOver_2 {I : zI} {res : zI} (h : fc_Walks_takeOver_2 I = some res) : zM 1 ym_130 [.inr (.inr (some 7)), .inr (.inr (some 53))] (zCs, zCr, I) none (zCs, zCr, res) 0 0 := by
  refine zM_of (by decide) (Nat.le_of_ble_eq_true rfl) (lv := [(0, .inr (.inr (some 7))), (1, .inr (.inr (some 53)))]) rfl ?_
  rw [fc_Walks_takeOver_2] at h
  refine zg_aload_n dd_130_0 rfl (j := 0) rfl ?_
  refine zg_aload_n dd_130_1 rfl (j := 1) rfl ?_
  refine zg_getI (x := (I 53 0)) dd_130_2 zl_Walks_9 zCs_53 rfl rfl ?_
  refine zg_putI dd_130_5 zp_Walks_9 zCs_7 rfl (zSt_int _) ?_
  refine zg_aload_n dd_130_8 rfl (j := 1) rfl ?_
  refine zg_getR dd_130_9 zl_Walks_15 zCs_53 rfl zCr_53_1 ?_
  refine zg_iconst dd_130_12 kI_0 ?_
  refine zg_aload_n dd_130_13 rfl (j := 0) rfl ?_
  refine zg_getR dd_130_14 zl_Walks_15 zCs_7 rfl zCr_7_1 ?_
  refine zg_iconst dd_130_17 kI_0 ?_
  refine zg_bipush dd_130_18 kB_10 ?_
  refine zg_acopy dd_130_20 zw_984 zacw zCs_54 zCs_8 (by decide) (by first | decide | omega) (Nat.le_of_ble_eq_true rfl) ?_
  refine zg_aload_n dd_130_23 rfl (j := 1) rfl ?_
  refine zg_getR dd_130_24 zl_Walks_19 zCs_53 rfl zCr_53_2 ?_
  refine zg_iconst dd_130_27 kI_0 ?_
  refine zg_aload_n dd_130_28 rfl (j := 0) rfl ?_
  refine zg_getR dd_130_29 zl_Walks_19 zCs_7 rfl zCr_7_2 ?_
  refine zg_iconst dd_130_32 kI_0 ?_
  refine zg_bipush dd_130_33 kB_10 ?_
  refine zg_acopy dd_130_35 zw_984 zacw zCs_55 zCs_9 (by decide) (by first | decide | omega) (Nat.le_of_ble_eq_true rfl) ?_
  refine zg_aload_n dd_130_38 rfl (j := 1) rfl ?_
  refine zg_getR dd_130_39 zl_Walks_22 zCs_53 rfl zCr_53_3 ?_
  refine zg_iconst dd_130_42 kI_0 ?_
  refine zg_aload_n dd_130_43 rfl (j := 0) rfl ?_
  refine zg_getR dd_130_44 zl_Walks_22 zCs_7 rfl zCr_7_3 ?_
  refine zg_iconst dd_130_47 kI_0 ?_
  refine zg_bipush dd_130_48 kB_10 ?_
  refine zg_acopy dd_130_50 zw_984 zacw zCs_56 zCs_10 (by decide) (by first | decide | omega) (Nat.le_of_ble_eq_true rfl) ?_
  refine zg_aload_n dd_130_53 rfl (j := 1) rfl ?_
  refine zg_getR dd_130_54 zl_Walks_25 zCs_53 rfl zCr_53_4 ?_
  refine zg_iconst dd_130_57 kI_0 ?_
  refine zg_aload_n dd_130_58 rfl (j := 0) rfl ?_
  refine zg_getR dd_130_59 zl_Walks_25 zCs_7 rfl zCr_7_4 ?_
  refine zg_iconst dd_130_62 kI_0 ?_
  refine zg_bipush dd_130_63 kB_10 ?_
  refine zg_acopy dd_130_65 zw_984 zacw zCs_57 zCs_11 (by decide) (by first | decide | omega) (Nat.le_of_ble_eq_true rfl) ?_
  refine zg_iconst dd_130_68 kI_0 ?_
  refine zg_istore_n dd_130_69 rfl (Nat.le_of_ble_eq_true rfl) (lv' := [(2, .inl (0 : Int32)), (0, .inr (.inr (some 7))), (1, .inr (.inr (some 53)))]) rfl ?_
  refine zg_sub [1, 2, 0] rfl ?_
  refine lt_fc_Walks_takeOver_2_L70  _ _ _ h
/-! TurnedLand$Folk.takeOver[23, 69] -/
def fc_Folk_takeOver_2 (I : zI) : Option zI :=
  some (zcopy (zcopy (zcopy (zup (zcopy (zcopy (zup I 23 0 (I 69 0)) 70 24 (0 : Int32) (0 : Int32) (6 : Int32)) 71 25 (0 : Int32) (0 : Int32) (6 : Int32)) 23 3 ((zcopy (zcopy (zup I 23 0 (I 69 0)) 70 24 (0 : Int32) (0 : Int32) (6 : Int32)) 71 25 (0 : Int32) (0 : Int32) (6 : Int32)) 69 3)) 72 26 (0 : Int32) (0 : Int32) (6 : Int32)) 73 27 (0 : Int32) (0 : Int32) (6 : Int32)) 74 28 (0 : Int32) (0 : Int32) (6 : Int32))
set_option maxRecDepth 20000 in
theorem mt_fc_Folk_takeOver_2 {I : zI} {res : zI} (h : fc_Folk_takeOver_2 I = some res) : zM 1 ym_131 [.inr (.inr (some 23)), .inr (.inr (some 69))] (zCs, zCr, I) none (zCs, zCr, res) 0 0 := by
  refine zM_of (by decide) (Nat.le_of_ble_eq_true rfl) (lv := [(0, .inr (.inr (some 23))), (1, .inr (.inr (some 69)))]) rfl ?_
  rw [fc_Folk_takeOver_2] at h
  refine zg_aload_n dd_131_0 rfl (j := 0) rfl ?_
  refine zg_aload_n dd_131_1 rfl (j := 1) rfl ?_
  refine zg_getI (x := (I 69 0)) dd_131_2 zl_Folk_9 zCs_69 rfl rfl ?_
  refine zg_putI dd_131_5 zp_Folk_9 zCs_23 rfl (zSt_int _) ?_
  refine zg_aload_n dd_131_8 rfl (j := 1) rfl ?_
  refine zg_getR dd_131_9 zl_Folk_15 zCs_69 rfl zCr_69_1 ?_
  refine zg_iconst dd_131_12 kI_0 ?_
  refine zg_aload_n dd_131_13 rfl (j := 0) rfl ?_
  refine zg_getR dd_131_14 zl_Folk_15 zCs_23 rfl zCr_23_1 ?_
  refine zg_iconst dd_131_17 kI_0 ?_
  refine zg_bipush dd_131_18 kB_6 ?_
  refine zg_acopy dd_131_20 zw_989 zacw zCs_70 zCs_24 (by decide) (by first | decide | omega) (Nat.le_of_ble_eq_true rfl) ?_
  refine zg_aload_n dd_131_23 rfl (j := 1) rfl ?_
  refine zg_getR dd_131_24 zl_Folk_19 zCs_69 rfl zCr_69_2 ?_
  refine zg_iconst dd_131_27 kI_0 ?_
  refine zg_aload_n dd_131_28 rfl (j := 0) rfl ?_
  refine zg_getR dd_131_29 zl_Folk_19 zCs_23 rfl zCr_23_2 ?_
  refine zg_iconst dd_131_32 kI_0 ?_
  refine zg_bipush dd_131_33 kB_6 ?_
  refine zg_acopy dd_131_35 zw_989 zacw zCs_71 zCs_25 (by decide) (by first | decide | omega) (Nat.le_of_ble_eq_true rfl) ?_
  refine zg_aload_n dd_131_38 rfl (j := 0) rfl ?_
  refine zg_aload_n dd_131_39 rfl (j := 1) rfl ?_
  refine zg_getI (x := ((zcopy (zcopy (zup I 23 0 (I 69 0)) 70 24 (0 : Int32) (0 : Int32) (6 : Int32)) 71 25 (0 : Int32) (0 : Int32) (6 : Int32)) 69 3)) dd_131_40 zl_Folk_22 zCs_69 rfl rfl ?_
  refine zg_putI dd_131_43 zp_Folk_22 zCs_23 rfl (zSt_int _) ?_
  refine zg_aload_n dd_131_46 rfl (j := 1) rfl ?_
  refine zg_getR dd_131_47 zl_Folk_25 zCs_69 rfl zCr_69_4 ?_
  refine zg_iconst dd_131_50 kI_0 ?_
  refine zg_aload_n dd_131_51 rfl (j := 0) rfl ?_
  refine zg_getR dd_131_52 zl_Folk_25 zCs_23 rfl zCr_23_4 ?_
  refine zg_iconst dd_131_55 kI_0 ?_
  refine zg_bipush dd_131_56 kB_6 ?_
  refine zg_acopy dd_131_58 zw_989 zacw zCs_72 zCs_26 (by decide) (by first | decide | omega) (Nat.le_of_ble_eq_true rfl) ?_
  refine zg_aload_n dd_131_61 rfl (j := 1) rfl ?_
  refine zg_getR dd_131_62 zl_Folk_28 zCs_69 rfl zCr_69_5 ?_
  refine zg_iconst dd_131_65 kI_0 ?_
  refine zg_aload_n dd_131_66 rfl (j := 0) rfl ?_
  refine zg_getR dd_131_67 zl_Folk_28 zCs_23 rfl zCr_23_5 ?_
  refine zg_iconst dd_131_70 kI_0 ?_
  refine zg_bipush dd_131_71 kB_6 ?_
  refine zg_acopy dd_131_73 zw_989 zacw zCs_73 zCs_27 (by decide) (by first | decide | omega) (Nat.le_of_ble_eq_true rfl) ?_
  refine zg_aload_n dd_131_76 rfl (j := 1) rfl ?_
  refine zg_getR dd_131_77 zl_Folk_31 zCs_69 rfl zCr_69_6 ?_
  refine zg_iconst dd_131_80 kI_0 ?_
  refine zg_aload_n dd_131_81 rfl (j := 0) rfl ?_
  refine zg_getR dd_131_82 zl_Folk_31 zCs_23 rfl zCr_23_6 ?_
  refine zg_iconst dd_131_85 kI_0 ?_
  refine zg_bipush dd_131_86 kB_6 ?_
  refine zg_acopy dd_131_88 zw_989 zacw zCs_74 zCs_28 (by decide) (by first | decide | omega) (Nat.le_of_ble_eq_true rfl) ?_
  obtain rfl := Option.some.inj h
  exact zg_vret dd_131_91 rfl
/-! TurnedLand$Doubts.takeOver[29, 75] -/
def fc_Doubts_takeOver_2 (I : zI) : Option zI :=
  some (zcopy (zcopy (zup (zup I 29 0 (I 75 0)) 29 1 (I 75 1)) 76 30 (0 : Int32) (0 : Int32) (12 : Int32)) 77 31 (0 : Int32) (0 : Int32) (12 : Int32))
set_option maxRecDepth 20000 in
theorem mt_fc_Doubts_takeOver_2 {I : zI} {res : zI} (h : fc_Doubts_takeOver_2 I = some res) : zM 1 ym_132 [.inr (.inr (some 29)), .inr (.inr (some 75))] (zCs, zCr, I) none (zCs, zCr, res) 0 0 := by
  refine zM_of (by decide) (Nat.le_of_ble_eq_true rfl) (lv := [(0, .inr (.inr (some 29))), (1, .inr (.inr (some 75)))]) rfl ?_
  rw [fc_Doubts_takeOver_2] at h
  refine zg_aload_n dd_132_0 rfl (j := 0) rfl ?_
  refine zg_aload_n dd_132_1 rfl (j := 1) rfl ?_
  refine zg_getI (x := (I 75 0)) dd_132_2 zl_Doubts_9 zCs_75 rfl rfl ?_
  refine zg_putI dd_132_5 zp_Doubts_9 zCs_29 rfl (zSt_int _) ?_
  refine zg_aload_n dd_132_8 rfl (j := 0) rfl ?_
  refine zg_aload_n dd_132_9 rfl (j := 1) rfl ?_
  refine zg_getI (x := (I 75 1)) dd_132_10 zl_Doubts_15 zCs_75 rfl rfl ?_
  refine zg_putI dd_132_13 zp_Doubts_15 zCs_29 rfl (zSt_int _) ?_
  refine zg_aload_n dd_132_16 rfl (j := 1) rfl ?_
  refine zg_getR dd_132_17 zl_Doubts_18 zCs_75 rfl zCr_75_2 ?_
  refine zg_iconst dd_132_20 kI_0 ?_
  refine zg_aload_n dd_132_21 rfl (j := 0) rfl ?_
  refine zg_getR dd_132_22 zl_Doubts_18 zCs_29 rfl zCr_29_2 ?_
  refine zg_iconst dd_132_25 kI_0 ?_
  refine zg_bipush dd_132_26 kB_12 ?_
  refine zg_acopy dd_132_28 zw_994 zacw zCs_76 zCs_30 (by decide) (by first | decide | omega) (Nat.le_of_ble_eq_true rfl) ?_
  refine zg_aload_n dd_132_31 rfl (j := 1) rfl ?_
  refine zg_getR dd_132_32 zl_Doubts_22 zCs_75 rfl zCr_75_3 ?_
  refine zg_iconst dd_132_35 kI_0 ?_
  refine zg_aload_n dd_132_36 rfl (j := 0) rfl ?_
  refine zg_getR dd_132_37 zl_Doubts_22 zCs_29 rfl zCr_29_3 ?_
  refine zg_iconst dd_132_40 kI_0 ?_
  refine zg_bipush dd_132_41 kB_12 ?_
  refine zg_acopy dd_132_43 zw_994 zacw zCs_77 zCs_31 (by decide) (by first | decide | omega) (Nat.le_of_ble_eq_true rfl) ?_
  obtain rfl := Option.some.inj h
  exact zg_vret dd_132_46 rfl
/-! TurnedLand$Text.takeOver[35, 81] -/
def fc_Text_takeOver_3 (I : zI) : Option zI :=
  z_guard (zbb (I 81 0)) <|
  some (zcopy (zcopy (zup (zup I 35 0 (I 81 0)) 35 1 (I 81 1)) 82 36 (0 : Int32) (0 : Int32) (60 : Int32)) 83 37 (0 : Int32) (0 : Int32) (60 : Int32))
set_option maxRecDepth 20000 in
theorem mt_fc_Text_takeOver_3 {I : zI} {res : zI} (h : fc_Text_takeOver_3 I = some res) : zM 1 ym_133 [.inr (.inr (some 35)), .inr (.inr (some 81))] (zCs, zCr, I) none (zCs, zCr, res) 0 0 := by
  refine zM_of (by decide) (Nat.le_of_ble_eq_true rfl) (lv := [(0, .inr (.inr (some 35))), (1, .inr (.inr (some 81)))]) rfl ?_
  rw [fc_Text_takeOver_3] at h
  refine zg_aload_n dd_133_0 rfl (j := 0) rfl ?_
  refine zg_aload_n dd_133_1 rfl (j := 1) rfl ?_
  refine zg_getI (x := (I 81 0)) dd_133_2 zl_Text_9 zCs_81 rfl rfl ?_
  obtain ⟨g1, h⟩ := z_gd h
  refine zg_putI dd_133_5 zp_Text_9 zCs_35 rfl (zSt_bb g1) ?_
  refine zg_aload_n dd_133_8 rfl (j := 0) rfl ?_
  refine zg_aload_n dd_133_9 rfl (j := 1) rfl ?_
  refine zg_getI (x := (I 81 1)) dd_133_10 zl_Text_15 zCs_81 rfl rfl ?_
  refine zg_putI dd_133_13 zp_Text_15 zCs_35 rfl (zSt_int _) ?_
  refine zg_aload_n dd_133_16 rfl (j := 1) rfl ?_
  refine zg_getR dd_133_17 zl_Text_19 zCs_81 rfl zCr_81_2 ?_
  refine zg_iconst dd_133_20 kI_0 ?_
  refine zg_aload_n dd_133_21 rfl (j := 0) rfl ?_
  refine zg_getR dd_133_22 zl_Text_19 zCs_35 rfl zCr_35_2 ?_
  refine zg_iconst dd_133_25 kI_0 ?_
  refine zg_bipush dd_133_26 kB_60 ?_
  refine zg_acopy dd_133_28 zw_622 zacw zCs_82 zCs_36 (by decide) (by first | decide | omega) (Nat.le_of_ble_eq_true rfl) ?_
  refine zg_aload_n dd_133_31 rfl (j := 1) rfl ?_
  refine zg_getR dd_133_32 zl_Text_23 zCs_81 rfl zCr_81_3 ?_
  refine zg_iconst dd_133_35 kI_0 ?_
  refine zg_aload_n dd_133_36 rfl (j := 0) rfl ?_
  refine zg_getR dd_133_37 zl_Text_23 zCs_35 rfl zCr_35_3 ?_
  refine zg_iconst dd_133_40 kI_0 ?_
  refine zg_bipush dd_133_41 kB_60 ?_
  refine zg_acopy dd_133_43 zw_622 zacw zCs_83 zCs_37 (by decide) (by first | decide | omega) (Nat.le_of_ble_eq_true rfl) ?_
  obtain rfl := Option.some.inj h
  exact zg_vret dd_133_46 rfl
/-! TurnedLand$Text.takeOver[40, 86] -/
def fc_Text_takeOver_4 (I : zI) : Option zI :=
  z_guard (zbb (I 86 0)) <|
  some (zcopy (zcopy (zup (zup I 40 0 (I 86 0)) 40 1 (I 86 1)) 87 41 (0 : Int32) (0 : Int32) (60 : Int32)) 88 42 (0 : Int32) (0 : Int32) (60 : Int32))
set_option maxRecDepth 20000 in
theorem mt_fc_Text_takeOver_4 {I : zI} {res : zI} (h : fc_Text_takeOver_4 I = some res) : zM 1 ym_133 [.inr (.inr (some 40)), .inr (.inr (some 86))] (zCs, zCr, I) none (zCs, zCr, res) 0 0 := by
  refine zM_of (by decide) (Nat.le_of_ble_eq_true rfl) (lv := [(0, .inr (.inr (some 40))), (1, .inr (.inr (some 86)))]) rfl ?_
  rw [fc_Text_takeOver_4] at h
  refine zg_aload_n dd_133_0 rfl (j := 0) rfl ?_
  refine zg_aload_n dd_133_1 rfl (j := 1) rfl ?_
  refine zg_getI (x := (I 86 0)) dd_133_2 zl_Text_9 zCs_86 rfl rfl ?_
  obtain ⟨g1, h⟩ := z_gd h
  refine zg_putI dd_133_5 zp_Text_9 zCs_40 rfl (zSt_bb g1) ?_
  refine zg_aload_n dd_133_8 rfl (j := 0) rfl ?_
  refine zg_aload_n dd_133_9 rfl (j := 1) rfl ?_
  refine zg_getI (x := (I 86 1)) dd_133_10 zl_Text_15 zCs_86 rfl rfl ?_
  refine zg_putI dd_133_13 zp_Text_15 zCs_40 rfl (zSt_int _) ?_
  refine zg_aload_n dd_133_16 rfl (j := 1) rfl ?_
  refine zg_getR dd_133_17 zl_Text_19 zCs_86 rfl zCr_86_2 ?_
  refine zg_iconst dd_133_20 kI_0 ?_
  refine zg_aload_n dd_133_21 rfl (j := 0) rfl ?_
  refine zg_getR dd_133_22 zl_Text_19 zCs_40 rfl zCr_40_2 ?_
  refine zg_iconst dd_133_25 kI_0 ?_
  refine zg_bipush dd_133_26 kB_60 ?_
  refine zg_acopy dd_133_28 zw_622 zacw zCs_87 zCs_41 (by decide) (by first | decide | omega) (Nat.le_of_ble_eq_true rfl) ?_
  refine zg_aload_n dd_133_31 rfl (j := 1) rfl ?_
  refine zg_getR dd_133_32 zl_Text_23 zCs_86 rfl zCr_86_3 ?_
  refine zg_iconst dd_133_35 kI_0 ?_
  refine zg_aload_n dd_133_36 rfl (j := 0) rfl ?_
  refine zg_getR dd_133_37 zl_Text_23 zCs_40 rfl zCr_40_3 ?_
  refine zg_iconst dd_133_40 kI_0 ?_
  refine zg_bipush dd_133_41 kB_60 ?_
  refine zg_acopy dd_133_43 zw_622 zacw zCs_88 zCs_42 (by decide) (by first | decide | omega) (Nat.le_of_ble_eq_true rfl) ?_
  obtain rfl := Option.some.inj h
  exact zg_vret dd_133_46 rfl
/-! TurnedLand$World.takeOver[1, 47] -/
def fc_World_takeOver_2 (I : zI) : Option zI :=
  (fc_Ground_takeOver_2 I).bind fun r1 =>
  (fc_Walks_takeOver_2 r1).bind fun r3 =>
  (fc_Folk_takeOver_2 r3).bind fun r5 =>
  (fc_Doubts_takeOver_2 r5).bind fun r7 =>
  (fc_Text_takeOver_3 r7).bind fun r9 =>
  (fc_Text_takeOver_4 r9).bind fun r11 =>
  some (zup (zup (zcopy (zup (zcopy r11 91 45 (0 : Int32) (0 : Int32) (60 : Int32)) 1 7 ((zcopy r11 91 45 (0 : Int32) (0 : Int32) (60 : Int32)) 47 7)) 92 46 (0 : Int32) (0 : Int32) (24 : Int32)) 1 9 ((zcopy (zup (zcopy r11 91 45 (0 : Int32) (0 : Int32) (60 : Int32)) 1 7 ((zcopy r11 91 45 (0 : Int32) (0 : Int32) (60 : Int32)) 47 7)) 92 46 (0 : Int32) (0 : Int32) (24 : Int32)) 47 9)) 1 10 ((zcopy (zup (zcopy r11 91 45 (0 : Int32) (0 : Int32) (60 : Int32)) 1 7 ((zcopy r11 91 45 (0 : Int32) (0 : Int32) (60 : Int32)) 47 7)) 92 46 (0 : Int32) (0 : Int32) (24 : Int32)) 47 10))
set_option maxRecDepth 20000 in
theorem mt_fc_World_takeOver_2 {I : zI} {res : zI} (h : fc_World_takeOver_2 I = some res) : zM 2 ym_128 [.inr (.inr (some 1)), .inr (.inr (some 47))] (zCs, zCr, I) none (zCs, zCr, res) 0 0 := by
  refine zM_of (by decide) (Nat.le_of_ble_eq_true rfl) (lv := [(0, .inr (.inr (some 1))), (1, .inr (.inr (some 47)))]) rfl ?_
  rw [fc_World_takeOver_2] at h
  refine zg_aload_n dd_128_0 rfl (j := 0) rfl ?_
  refine zg_getR dd_128_1 zl_World_12 zCs_1 rfl zCr_1_0 ?_
  refine zg_aload_n dd_128_4 rfl (j := 1) rfl ?_
  refine zg_getR dd_128_5 zl_World_12 zCs_47 rfl zCr_47_0 ?_
  obtain ⟨r1, e2, h⟩ := z_bd h
  refine zg_invV_v (av := [.inr (.inr (some 48))]) (st := []) (n := 1) dd_128_8 ca_129 zw_975 zw_976 zw_977 zCs_2 zcl_2 rfl (mt_fc_Ground_takeOver_2 e2) rfl ⟨by decide +kernel, by decide⟩ (Nat.le_of_ble_eq_true rfl) ?_
  refine zg_aload_n dd_128_11 rfl (j := 0) rfl ?_
  refine zg_getR dd_128_12 zl_World_21 zCs_1 rfl zCr_1_1 ?_
  refine zg_aload_n dd_128_15 rfl (j := 1) rfl ?_
  refine zg_getR dd_128_16 zl_World_21 zCs_47 rfl zCr_47_1 ?_
  obtain ⟨r3, e4, h⟩ := z_bd h
  refine zg_invV_v (av := [.inr (.inr (some 53))]) (st := []) (n := 1) dd_128_19 ca_130 zw_980 zw_981 zw_982 zCs_7 zcl_8 rfl (mt_fc_Walks_takeOver_2 e4) rfl ⟨by decide +kernel, by decide⟩ (Nat.le_of_ble_eq_true rfl) ?_
  refine zg_aload_n dd_128_22 rfl (j := 0) rfl ?_
  refine zg_getR dd_128_23 zl_World_28 zCs_1 rfl zCr_1_2 ?_
  refine zg_aload_n dd_128_26 rfl (j := 1) rfl ?_
  refine zg_getR dd_128_27 zl_World_28 zCs_47 rfl zCr_47_2 ?_
  obtain ⟨r5, e6, h⟩ := z_bd h
  refine zg_invV_v (av := [.inr (.inr (some 69))]) (st := []) (n := 1) dd_128_30 ca_131 zw_985 zw_986 zw_987 zCs_23 zcl_1 rfl (mt_fc_Folk_takeOver_2 e6) rfl ⟨by decide +kernel, by decide⟩ (Nat.le_of_ble_eq_true rfl) ?_
  refine zg_aload_n dd_128_33 rfl (j := 0) rfl ?_
  refine zg_getR dd_128_34 zl_World_35 zCs_1 rfl zCr_1_3 ?_
  refine zg_aload_n dd_128_37 rfl (j := 1) rfl ?_
  refine zg_getR dd_128_38 zl_World_35 zCs_47 rfl zCr_47_3 ?_
  obtain ⟨r7, e8, h⟩ := z_bd h
  refine zg_invV_v (av := [.inr (.inr (some 75))]) (st := []) (n := 1) dd_128_41 ca_132 zw_990 zw_991 zw_992 zCs_29 zcl_0 rfl (mt_fc_Doubts_takeOver_2 e8) rfl ⟨by decide +kernel, by decide⟩ (Nat.le_of_ble_eq_true rfl) ?_
  refine zg_aload_n dd_128_44 rfl (j := 0) rfl ?_
  refine zg_getR dd_128_45 zl_World_42 zCs_1 rfl zCr_1_4 ?_
  refine zg_aload_n dd_128_48 rfl (j := 1) rfl ?_
  refine zg_getR dd_128_49 zl_World_42 zCs_47 rfl zCr_47_4 ?_
  obtain ⟨r9, e10, h⟩ := z_bd h
  refine zg_invV_v (av := [.inr (.inr (some 81))]) (st := []) (n := 1) dd_128_52 ca_133 zw_995 zw_996 zw_997 zCs_35 zcl_5 rfl (mt_fc_Text_takeOver_3 e10) rfl ⟨by decide +kernel, by decide⟩ (Nat.le_of_ble_eq_true rfl) ?_
  refine zg_aload_n dd_128_55 rfl (j := 0) rfl ?_
  refine zg_getR dd_128_56 zl_World_46 zCs_1 rfl zCr_1_5 ?_
  refine zg_aload_n dd_128_59 rfl (j := 1) rfl ?_
  refine zg_getR dd_128_60 zl_World_46 zCs_47 rfl zCr_47_5 ?_
  obtain ⟨r11, e12, h⟩ := z_bd h
  refine zg_invV_v (av := [.inr (.inr (some 86))]) (st := []) (n := 1) dd_128_63 ca_133 zw_995 zw_996 zw_997 zCs_40 zcl_5 rfl (mt_fc_Text_takeOver_4 e12) rfl ⟨by decide +kernel, by decide⟩ (Nat.le_of_ble_eq_true rfl) ?_
  refine zg_aload_n dd_128_66 rfl (j := 1) rfl ?_
  refine zg_getR dd_128_67 zl_World_49 zCs_47 rfl zCr_47_6 ?_
  refine zg_iconst dd_128_70 kI_0 ?_
  refine zg_aload_n dd_128_71 rfl (j := 0) rfl ?_
  refine zg_getR dd_128_72 zl_World_49 zCs_1 rfl zCr_1_6 ?_
  refine zg_iconst dd_128_75 kI_0 ?_
  refine zg_bipush dd_128_76 kB_60 ?_
  refine zg_acopy dd_128_78 zw_999 zacw zCs_91 zCs_45 (by decide) (by first | decide | omega) (Nat.le_of_ble_eq_true rfl) ?_
  refine zg_aload_n dd_128_81 rfl (j := 0) rfl ?_
  refine zg_aload_n dd_128_82 rfl (j := 1) rfl ?_
  refine zg_getI (x := ((zcopy r11 91 45 (0 : Int32) (0 : Int32) (60 : Int32)) 47 7)) dd_128_83 zl_World_53 zCs_47 rfl rfl ?_
  refine zg_putI dd_128_86 zp_World_53 zCs_1 rfl (zSt_int _) ?_
  refine zg_aload_n dd_128_89 rfl (j := 1) rfl ?_
  refine zg_getR dd_128_90 zl_World_57 zCs_47 rfl zCr_47_8 ?_
  refine zg_iconst dd_128_93 kI_0 ?_
  refine zg_aload_n dd_128_94 rfl (j := 0) rfl ?_
  refine zg_getR dd_128_95 zl_World_57 zCs_1 rfl zCr_1_8 ?_
  refine zg_iconst dd_128_98 kI_0 ?_
  refine zg_bipush dd_128_99 kB_24 ?_
  refine zg_acopy dd_128_101 zw_999 zacw zCs_92 zCs_46 (by decide) (by first | decide | omega) (Nat.le_of_ble_eq_true rfl) ?_
  refine zg_aload_n dd_128_104 rfl (j := 0) rfl ?_
  refine zg_aload_n dd_128_105 rfl (j := 1) rfl ?_
  refine zg_getI (x := ((zcopy (zup (zcopy r11 91 45 (0 : Int32) (0 : Int32) (60 : Int32)) 1 7 ((zcopy r11 91 45 (0 : Int32) (0 : Int32) (60 : Int32)) 47 7)) 92 46 (0 : Int32) (0 : Int32) (24 : Int32)) 47 9)) dd_128_106 zl_World_60 zCs_47 rfl rfl ?_
  refine zg_putI dd_128_109 zp_World_60 zCs_1 rfl (zSt_int _) ?_
  refine zg_aload_n dd_128_112 rfl (j := 0) rfl ?_
  refine zg_aload_n dd_128_113 rfl (j := 1) rfl ?_
  refine zg_getI (x := ((zcopy (zup (zcopy r11 91 45 (0 : Int32) (0 : Int32) (60 : Int32)) 1 7 ((zcopy r11 91 45 (0 : Int32) (0 : Int32) (60 : Int32)) 47 7)) 92 46 (0 : Int32) (0 : Int32) (24 : Int32)) 47 10)) dd_128_114 zl_World_63 zCs_47 rfl rfl ?_
  refine zg_putI dd_128_117 zp_World_63 zCs_1 rfl (zSt_int _) ?_
  obtain rfl := Option.some.inj h
  exact zg_vret dd_128_120 rfl
/-! TurnedLand.restore(0,) -/
def fc_T_restore (I : zI) : Option (Int32 × zI) :=
  if (I 0 2) = 0 then
    (fc_T_refuse I (2 : Int32)).bind fun r4 =>
    some (r4.1, r4.2)
  else
    (fc_World_takeOver_2 I).bind fun r2 =>
    some ((r2 2 0), r2)
set_option maxRecDepth 20000 in
theorem mt_fc_T_restore {I : zI} {res : (Int32 × zI)} (h : fc_T_restore I = some res) : zM 3 ym_134 [.inr (.inr (some 0))] (zCs, zCr, I) (some (.inl res.1)) (zCs, zCr, res.2) 0 0 := by
  refine zM_of (by decide) (Nat.le_of_ble_eq_true rfl) (lv := [(0, .inr (.inr (some 0)))]) rfl ?_
  rw [fc_T_restore] at h
  refine zg_aload_n dd_134_0 rfl (j := 0) rfl ?_
  refine zg_getI (x := (I 0 2)) dd_134_1 zl_T_19 zCs_0 rfl rfl ?_
  refine zg_if_ne (tgt := 13) dd_134_4 (by decide) (fun q1 => ?_) (fun q1 => ?_)
  · replace h := z_f h q1
    refine zg_aload_n dd_134_13 rfl (j := 0) rfl ?_
    refine zg_getR dd_134_14 zl_T_12 zCs_0 rfl zCr_0_0 ?_
    refine zg_aload_n dd_134_17 rfl (j := 0) rfl ?_
    refine zg_getR dd_134_18 zl_T_16 zCs_0 rfl zCr_0_1 ?_
    obtain ⟨r2, e3, h⟩ := z_bd h
    refine zg_invV_v (av := [.inr (.inr (some 47))]) (st := []) (n := 1) dd_134_21 ca_128 zw_971 zw_972 zw_973 zCs_1 zcl_10 rfl (mt_fc_World_takeOver_2 e3) rfl ⟨by decide +kernel, by decide⟩ (Nat.le_of_ble_eq_true rfl) ?_
    refine zg_aload_n dd_134_24 rfl (j := 0) rfl ?_
    refine zg_getR dd_134_25 zl_T_12 zCs_0 rfl zCr_0_0 ?_
    refine zg_getR dd_134_28 zl_T_76 zCs_1 rfl zCr_1_0 ?_
    refine zg_getI (x := (r2 2 0)) dd_134_31 zl_T_88 zCs_2 rfl rfl ?_
    obtain rfl := Option.some.inj h
    exact zg_iret dd_134_34 rfl
  · replace h := z_t h q1
    refine zg_aload_n dd_134_7 rfl (j := 0) rfl ?_
    refine zg_iconst dd_134_8 kI_2 ?_
    obtain ⟨r4, e5, h⟩ := z_bd h
    refine zg_invV_i (av := [.inl (2 : Int32)]) (st := []) (n := 1) dd_134_9 ca_2 zw_430 zw_432 zv_0 zCs_0 zcl_11 rfl (mt_fc_T_refuse e5) rfl ⟨by decide +kernel, by decide⟩ (Nat.le_of_ble_eq_true rfl) ?_
    obtain rfl := Option.some.inj h
    exact zg_iret dd_134_12 rfl
/-! TurnedLand.tell(0, None) -/
def fc_T_tell (I : zI) (a1 : Int32) : Option (Int32 × zI) :=
  if (I 1 9) < (24 : Int32) then
    z_guard (zb (I 1 9) 24) <|
    some (((I 1 9) + (1 : Int32)), (zup (zup I 46 (I 1 9).toNatClampNeg a1) 1 9 ((I 1 9) + (1 : Int32))))
  else
    (fc_T_refuse I (4 : Int32)).bind fun r3 =>
    some (r3.1, r3.2)
set_option maxRecDepth 20000 in
theorem mt_fc_T_tell {I : zI} {a1 : Int32} {res : (Int32 × zI)} (h : fc_T_tell I a1 = some res) : zM 3 ym_135 [.inr (.inr (some 0)), .inl a1] (zCs, zCr, I) (some (.inl res.1)) (zCs, zCr, res.2) 0 0 := by
  refine zM_of (by decide) (Nat.le_of_ble_eq_true rfl) (lv := [(0, .inr (.inr (some 0))), (1, .inl a1)]) rfl ?_
  rw [fc_T_tell] at h
  refine zg_aload_n dd_135_0 rfl (j := 0) rfl ?_
  refine zg_getR dd_135_1 zl_T_12 zCs_0 rfl zCr_0_0 ?_
  refine zg_getI (x := (I 1 9)) dd_135_4 zl_T_371 zCs_1 rfl rfl ?_
  refine zg_bipush dd_135_7 kB_24 ?_
  refine zg_icmp_lt (tgt := 18) dd_135_9 (by decide) (fun q1 => ?_) (fun q1 => ?_)
  · replace h := z_t h q1
    refine zg_aload_n dd_135_18 rfl (j := 0) rfl ?_
    refine zg_getR dd_135_19 zl_T_12 zCs_0 rfl zCr_0_0 ?_
    refine zg_getR dd_135_22 zl_T_374 zCs_1 rfl zCr_1_8 ?_
    refine zg_aload_n dd_135_25 rfl (j := 0) rfl ?_
    refine zg_getR dd_135_26 zl_T_12 zCs_0 rfl zCr_0_0 ?_
    refine zg_getI (x := (I 1 9)) dd_135_29 zl_T_371 zCs_1 rfl rfl ?_
    refine zg_iload_n dd_135_32 rfl (j := 1) rfl ?_
    obtain ⟨g2, h⟩ := z_gd h
    refine zg_iast dd_135_33 zCs_46 g2 ?_
    refine zg_aload_n dd_135_34 rfl (j := 0) rfl ?_
    refine zg_getR dd_135_35 zl_T_12 zCs_0 rfl zCr_0_0 ?_
    refine zg_dup dd_135_38 rfl ?_
    refine zg_getI (x := (I 1 9)) dd_135_39 zl_T_371 zCs_1 rfl rfl ?_
    refine zg_iconst dd_135_42 kI_1 ?_
    refine zg_iadd dd_135_43 ?_
    refine zg_putI dd_135_44 zp_T_371 zCs_1 rfl (zSt_int _) ?_
    refine zg_aload_n dd_135_47 rfl (j := 0) rfl ?_
    refine zg_getR dd_135_48 zl_T_12 zCs_0 rfl zCr_0_0 ?_
    refine zg_getI (x := ((I 1 9) + (1 : Int32))) dd_135_51 zl_T_371 zCs_1 rfl rfl ?_
    obtain rfl := Option.some.inj h
    exact zg_iret dd_135_54 rfl
  · replace h := z_f h q1
    refine zg_aload_n dd_135_12 rfl (j := 0) rfl ?_
    refine zg_iconst dd_135_13 kI_4 ?_
    obtain ⟨r3, e4, h⟩ := z_bd h
    refine zg_invV_i (av := [.inl (4 : Int32)]) (st := []) (n := 1) dd_135_14 ca_2 zw_430 zw_432 zv_0 zCs_0 zcl_11 rfl (mt_fc_T_refuse e4) rfl ⟨by decide +kernel, by decide⟩ (Nat.le_of_ble_eq_true rfl) ?_
    obtain rfl := Option.some.inj h
    exact zg_iret dd_135_17 rfl
/-! TurnedLand$Walker.firstUnlike[178, 46, None] -/
def fc_Walker_firstUnlike_L2 (I : zI) : Nat → Int32 → Int32 → Option Int32
  | 0, _, _ => none
  | nf + 1, v2, v3 =>
    if v2 ≤ v3 then
      if (I 178 1) < v2 then
        some (-1 : Int32)
      else
        some v2
    else
      if (I 178 1) < v3 then
        some v3
      else
        z_guard (zb v3 24) <|
        z_guard (zb v3 9) <|
        if (I 46 v3.toNatClampNeg) = (I 179 v3.toNatClampNeg) then
          fc_Walker_firstUnlike_L2 I nf v2 (v3 + (1 : Int32))
        else
          some v3
def fc_Walker_firstUnlike (I : zI) (a2 : Int32) : Option Int32 :=
  fc_Walker_firstUnlike_L2 I
    100 a2 (0 : Int32)
set_option maxRecDepth 20000 in
theorem lt_fc_Walker_firstUnlike_L2 {res : Int32} {I : zI} : ∀ (nf : Nat) (v2 : Int32) (v3 : Int32), fc_Walker_firstUnlike_L2 I nf v2 v3 = some res → zG 1 ym_137 0 0 (some (.inl res)) (zCs, zCr, I) zCs.length 2 [(0, .inr (.inr (some 178))), (1, .inr (.inr (some 46))), (2, .inl v2), (3, .inl v3)] [] (zCs, zCr, I) 0 0 := by
  intro nf
  induction nf with
  | zero =>
    intro v2 v3 h
    have h2 : none = some res := h
    cases h2
  | succ nf ih =>
    intro v2 v3 h
    rw [fc_Walker_firstUnlike_L2] at h
    refine zg_iload_n dd_137_2 rfl (j := 3) rfl ?_
    refine zg_iload_n dd_137_3 rfl (j := 2) rfl ?_
    refine zg_icmp_ge (tgt := 35) dd_137_4 (by decide) (fun q1 => ?_) (fun q1 => ?_)
    · replace h := z_t h q1
      refine zg_iload_n dd_137_35 rfl (j := 2) rfl ?_
      refine zg_aload_n dd_137_36 rfl (j := 0) rfl ?_
      refine zg_getI (x := (I 178 1)) dd_137_37 zl_Walker_15 zCs_178 rfl rfl ?_
      refine zg_icmp_gt (tgt := 47) dd_137_40 (by decide) (fun q2 => ?_) (fun q2 => ?_)
      · replace h := z_t h q2
        refine zg_iconst dd_137_47 kI_m1 ?_
        obtain rfl := Option.some.inj h
        exact zg_iret dd_137_48 rfl
      · replace h := z_f h q2
        refine zg_iload_n dd_137_43 rfl (j := 2) rfl ?_
        refine zg_goto (tgt := 48) dd_137_44 (by decide) ?_
        obtain rfl := Option.some.inj h
        exact zg_iret dd_137_48 rfl
    · replace h := z_f h q1
      refine zg_iload_n dd_137_7 rfl (j := 3) rfl ?_
      refine zg_aload_n dd_137_8 rfl (j := 0) rfl ?_
      refine zg_getI (x := (I 178 1)) dd_137_9 zl_Walker_15 zCs_178 rfl rfl ?_
      refine zg_icmp_gt (tgt := 27) dd_137_12 (by decide) (fun q3 => ?_) (fun q3 => ?_)
      · replace h := z_t h q3
        refine zg_iload_n dd_137_27 rfl (j := 3) rfl ?_
        obtain rfl := Option.some.inj h
        exact zg_iret dd_137_28 rfl
      · replace h := z_f h q3
        refine zg_aload_n dd_137_15 rfl (j := 1) rfl ?_
        refine zg_iload_n dd_137_16 rfl (j := 3) rfl ?_
        obtain ⟨g4, h⟩ := z_gd h
        refine zg_iald (w := (I 46 v3.toNatClampNeg)) dd_137_17 zCs_46 g4 rfl ?_
        refine zg_aload_n dd_137_18 rfl (j := 0) rfl ?_
        refine zg_getR dd_137_19 zl_Walker_9 zCs_178 rfl zCr_178_0 ?_
        refine zg_iload_n dd_137_22 rfl (j := 3) rfl ?_
        obtain ⟨g5, h⟩ := z_gd h
        refine zg_iald (w := (I 179 v3.toNatClampNeg)) dd_137_23 zCs_179 g5 rfl ?_
        refine zg_icmp_eq (tgt := 29) dd_137_24 (by decide) (fun q6 => ?_) (fun q6 => ?_)
        · replace h := z_t h q6
          refine zg_iinc dd_137_29 (j := 3) rfl (v := (v3 + (1 : Int32))) (by rw [kI_1]) (Nat.le_of_ble_eq_true rfl) (lv' := [(3, .inl (v3 + (1 : Int32))), (0, .inr (.inr (some 178))), (1, .inr (.inr (some 46))), (2, .inl v2)]) rfl ?_
          refine zg_goto (tgt := 2) dd_137_32 (by decide) ?_
          refine zg_sub [1, 2, 3, 0] rfl ?_
          exact ih _ _ h
        · replace h := z_f h q6
          refine zg_iload_n dd_137_27 rfl (j := 3) rfl ?_
          obtain rfl := Option.some.inj h
          exact zg_iret dd_137_28 rfl
set_option maxRecDepth 20000 in
theorem mt_fc_Walker_firstUnlike {I : zI} {a2 : Int32} {res : Int32} (h : fc_Walker_firstUnlike I a2 = some res) : zM 1 ym_137 [.inr (.inr (some 178)), .inr (.inr (some 46)), .inl a2] (zCs, zCr, I) (some (.inl res)) (zCs, zCr, I) 0 0 := by
  refine zM_of (by decide) (Nat.le_of_ble_eq_true rfl) (lv := [(0, .inr (.inr (some 178))), (1, .inr (.inr (some 46))), (2, .inl a2)]) rfl ?_
  rw [fc_Walker_firstUnlike] at h
  refine zg_iconst dd_137_0 kI_0 ?_
  refine zg_istore_n dd_137_1 rfl (Nat.le_of_ble_eq_true rfl) (lv' := [(3, .inl (0 : Int32)), (0, .inr (.inr (some 178))), (1, .inr (.inr (some 46))), (2, .inl a2)]) rfl ?_
  refine zg_sub [1, 2, 3, 0] rfl ?_
  refine lt_fc_Walker_firstUnlike_L2  _ _ _ h
/-! TurnedLand.check(0, None) -/
def fc_T_check (I : zI) (a1 : Int32) : Option (Int32 × zI) :=
  (fc_Walks_has (zup I 1 9 (0 : Int32)) a1).bind fun r1 =>
  if r1 = 0 then
    (fc_T_refuse (zup I 1 9 (0 : Int32)) (1 : Int32)).bind fun r12 =>
    some (r12.1, r12.2)
  else
    (fc_Walker_goes (zup I 1 9 (0 : Int32)) a1 (0 : Int32)).bind fun r4 =>
    if r4.1 = 0 then
      (fc_T_refuse r4.2 (3 : Int32)).bind fun r10 =>
      some (r10.1, r10.2)
    else
      (fc_Walker_firstUnlike r4.2 (I 1 9)).bind fun r7 =>
      if 0 ≤ r7 then
        some (((1 : Int32) + r7), r4.2)
      else
        some ((0 : Int32), r4.2)
set_option maxRecDepth 20000 in
theorem mt_fc_T_check {I : zI} {a1 : Int32} {res : (Int32 × zI)} (h : fc_T_check I a1 = some res) : zM 5 ym_136 [.inr (.inr (some 0)), .inl a1] (zCs, zCr, I) (some (.inl res.1)) (zCs, zCr, res.2) 0 0 := by
  refine zM_of (by decide) (Nat.le_of_ble_eq_true rfl) (lv := [(0, .inr (.inr (some 0))), (1, .inl a1)]) rfl ?_
  rw [fc_T_check] at h
  refine zg_aload_n dd_136_0 rfl (j := 0) rfl ?_
  refine zg_getR dd_136_1 zl_T_12 zCs_0 rfl zCr_0_0 ?_
  refine zg_getI (x := (I 1 9)) dd_136_4 zl_T_371 zCs_1 rfl rfl ?_
  refine zg_istore_n dd_136_7 rfl (Nat.le_of_ble_eq_true rfl) (lv' := [(2, .inl (I 1 9)), (0, .inr (.inr (some 0))), (1, .inl a1)]) rfl ?_
  refine zg_aload_n dd_136_8 rfl (j := 1) rfl ?_
  refine zg_getR dd_136_9 zl_T_12 zCs_0 rfl zCr_0_0 ?_
  refine zg_iconst dd_136_12 kI_0 ?_
  refine zg_putI dd_136_13 zp_T_371 zCs_1 rfl (zSt_int _) ?_
  refine zg_aload_n dd_136_16 rfl (j := 1) rfl ?_
  refine zg_getR dd_136_17 zl_T_12 zCs_0 rfl zCr_0_0 ?_
  refine zg_getR dd_136_20 zl_T_199 zCs_1 rfl zCr_1_1 ?_
  refine zg_iload_n dd_136_23 rfl (j := 2) rfl ?_
  obtain ⟨r1, e2, h⟩ := z_bd h
  refine zg_invV_i (av := [.inl a1]) (st := []) (n := 1) dd_136_24 ca_68 zw_711 zw_712 zw_713 zCs_7 zcl_8 rfl (mt_fc_Walks_has e2) rfl ⟨by decide +kernel, by decide⟩ (Nat.le_of_ble_eq_true rfl) ?_
  refine zg_if_ne (tgt := 36) dd_136_27 (by decide) (fun q3 => ?_) (fun q3 => ?_)
  · replace h := z_f h q3
    refine zg_aload_n dd_136_36 rfl (j := 1) rfl ?_
    refine zg_getR dd_136_37 zl_T_58 zCs_0 rfl zCr_0_10 ?_
    refine zg_aload_n dd_136_40 rfl (j := 1) rfl ?_
    refine zg_getR dd_136_41 zl_T_12 zCs_0 rfl zCr_0_0 ?_
    refine zg_iload_n dd_136_44 rfl (j := 2) rfl ?_
    refine zg_iconst dd_136_45 kI_0 ?_
    obtain ⟨r4, e5, h⟩ := z_bd h
    refine zg_invV_i (av := [.inr (.inr (some 1)), .inl a1, .inl (0 : Int32)]) (st := []) (n := 3) dd_136_46 ca_70 zw_755 zw_720 zw_721 zCs_178 zcl_7 rfl (mt_fc_Walker_goes e5) rfl ⟨by decide +kernel, by decide⟩ (Nat.le_of_ble_eq_true rfl) ?_
    refine zg_if_ne (tgt := 58) dd_136_49 (by decide) (fun q6 => ?_) (fun q6 => ?_)
    · replace h := z_f h q6
      refine zg_aload_n dd_136_58 rfl (j := 1) rfl ?_
      refine zg_getR dd_136_59 zl_T_58 zCs_0 rfl zCr_0_10 ?_
      refine zg_aload_n dd_136_62 rfl (j := 1) rfl ?_
      refine zg_getR dd_136_63 zl_T_12 zCs_0 rfl zCr_0_0 ?_
      refine zg_getR dd_136_66 zl_T_374 zCs_1 rfl zCr_1_8 ?_
      refine zg_iload_n dd_136_69 rfl (j := 0) rfl ?_
      obtain ⟨r7, e8, h⟩ := z_bd h
      refine zg_invV_i (av := [.inr (.inr (some 46)), .inl (I 1 9)]) (st := []) (n := 2) dd_136_70 ca_137 zw_1012 zw_1013 zw_1014 zCs_178 zcl_7 rfl (mt_fc_Walker_firstUnlike e8) rfl ⟨by decide +kernel, by decide⟩ (Nat.le_of_ble_eq_true rfl) ?_
      refine zg_istore_n dd_136_73 rfl (Nat.le_of_ble_eq_true rfl) (lv' := [(3, .inl r7), (2, .inl (I 1 9)), (0, .inr (.inr (some 0))), (1, .inl a1)]) rfl ?_
      refine zg_iload_n dd_136_74 rfl (j := 0) rfl ?_
      refine zg_if_ge (tgt := 82) dd_136_75 (by decide) (fun q9 => ?_) (fun q9 => ?_)
      · replace h := z_t h q9
        refine zg_iconst dd_136_82 kI_1 ?_
        refine zg_iload_n dd_136_83 rfl (j := 0) rfl ?_
        refine zg_iadd dd_136_84 ?_
        obtain rfl := Option.some.inj h
        exact zg_iret dd_136_85 rfl
      · replace h := z_f h q9
        refine zg_iconst dd_136_78 kI_0 ?_
        refine zg_goto (tgt := 85) dd_136_79 (by decide) ?_
        obtain rfl := Option.some.inj h
        exact zg_iret dd_136_85 rfl
    · replace h := z_t h q6
      refine zg_aload_n dd_136_52 rfl (j := 1) rfl ?_
      refine zg_iconst dd_136_53 kI_3 ?_
      obtain ⟨r10, e11, h⟩ := z_bd h
      refine zg_invV_i (av := [.inl (3 : Int32)]) (st := []) (n := 1) dd_136_54 ca_2 zw_430 zw_432 zv_0 zCs_0 zcl_11 rfl (mt_fc_T_refuse e11) rfl ⟨by decide +kernel, by decide⟩ (Nat.le_of_ble_eq_true rfl) ?_
      obtain rfl := Option.some.inj h
      exact zg_iret dd_136_57 rfl
  · replace h := z_t h q3
    refine zg_aload_n dd_136_30 rfl (j := 1) rfl ?_
    refine zg_iconst dd_136_31 kI_1 ?_
    obtain ⟨r12, e13, h⟩ := z_bd h
    refine zg_invV_i (av := [.inl (1 : Int32)]) (st := []) (n := 1) dd_136_32 ca_2 zw_430 zw_432 zv_0 zCs_0 zcl_11 rfl (mt_fc_T_refuse e13) rfl ⟨by decide +kernel, by decide⟩ (Nat.le_of_ble_eq_true rfl) ?_
    obtain rfl := Option.some.inj h
    exact zg_iret dd_136_35 rfl
/-! TurnedLand.count(0, None) -/
def fc_T_count (I : zI) (a1 : Int32) : Option (Int32 × zI) :=
  if a1 = (0 : Int32) then
    some ((I 2 0), I)
  else if a1 = (1 : Int32) then
    some ((I 2 2), I)
  else if a1 = (2 : Int32) then
    some ((I 7 0), I)
  else if a1 = (3 : Int32) then
    some ((I 23 0), I)
  else if a1 = (4 : Int32) then
    some ((I 23 3), I)
  else if a1 = (5 : Int32) then
    some ((I 29 1), I)
  else if a1 = (6 : Int32) then
    some ((I 1 7), I)
  else if a1 = (7 : Int32) then
    some ((I 1 9), I)
  else if a1 = (8 : Int32) then
    some ((I 184 1), I)
  else if a1 = (9 : Int32) then
    some ((I 1 10), I)
  else if a1 = (10 : Int32) then
    some ((I 29 0), I)
  else
    (fc_T_refuse I (1 : Int32)).bind fun r12 =>
    some (r12.1, r12.2)
set_option maxRecDepth 20000 in
theorem mt_fc_T_count {I : zI} {a1 : Int32} {res : (Int32 × zI)} (h : fc_T_count I a1 = some res) : zM 3 ym_138 [.inr (.inr (some 0)), .inl a1] (zCs, zCr, I) (some (.inl res.1)) (zCs, zCr, res.2) 0 0 := by
  refine zM_of (by decide) (Nat.le_of_ble_eq_true rfl) (lv := [(0, .inr (.inr (some 0))), (1, .inl a1)]) rfl ?_
  rw [fc_T_count] at h
  refine zg_iload_n dd_138_0 rfl (j := 1) rfl ?_
  rcases z_if h with ⟨q1, h⟩ | ⟨q1, h⟩
  · refine zg_tabIn (tgt := 60) 59 dd_138_1 q1 (by decide) (by decide) (by decide) ?_
    refine zg_aload_n dd_138_60 rfl (j := 0) rfl ?_
    refine zg_getR dd_138_61 zl_T_12 zCs_0 rfl zCr_0_0 ?_
    refine zg_getR dd_138_64 zl_T_76 zCs_1 rfl zCr_1_0 ?_
    refine zg_getI (x := (I 2 0)) dd_138_67 zl_T_88 zCs_2 rfl rfl ?_
    obtain rfl := Option.some.inj h
    exact zg_iret dd_138_70 rfl
  rcases z_if h with ⟨q2, h⟩ | ⟨q2, h⟩
  · refine zg_tabIn (tgt := 71) 70 dd_138_1 q2 (by decide) (by decide) (by decide) ?_
    refine zg_aload_n dd_138_71 rfl (j := 0) rfl ?_
    refine zg_getR dd_138_72 zl_T_12 zCs_0 rfl zCr_0_0 ?_
    refine zg_getR dd_138_75 zl_T_76 zCs_1 rfl zCr_1_0 ?_
    refine zg_getI (x := (I 2 2)) dd_138_78 zl_T_116 zCs_2 rfl rfl ?_
    obtain rfl := Option.some.inj h
    exact zg_iret dd_138_81 rfl
  rcases z_if h with ⟨q3, h⟩ | ⟨q3, h⟩
  · refine zg_tabIn (tgt := 82) 81 dd_138_1 q3 (by decide) (by decide) (by decide) ?_
    refine zg_aload_n dd_138_82 rfl (j := 0) rfl ?_
    refine zg_getR dd_138_83 zl_T_12 zCs_0 rfl zCr_0_0 ?_
    refine zg_getR dd_138_86 zl_T_199 zCs_1 rfl zCr_1_1 ?_
    refine zg_getI (x := (I 7 0)) dd_138_89 zl_T_208 zCs_7 rfl rfl ?_
    obtain rfl := Option.some.inj h
    exact zg_iret dd_138_92 rfl
  rcases z_if h with ⟨q4, h⟩ | ⟨q4, h⟩
  · refine zg_tabIn (tgt := 93) 92 dd_138_1 q4 (by decide) (by decide) (by decide) ?_
    refine zg_aload_n dd_138_93 rfl (j := 0) rfl ?_
    refine zg_getR dd_138_94 zl_T_12 zCs_0 rfl zCr_0_0 ?_
    refine zg_getR dd_138_97 zl_T_255 zCs_1 rfl zCr_1_2 ?_
    refine zg_getI (x := (I 23 0)) dd_138_100 zl_T_259 zCs_23 rfl rfl ?_
    obtain rfl := Option.some.inj h
    exact zg_iret dd_138_103 rfl
  rcases z_if h with ⟨q5, h⟩ | ⟨q5, h⟩
  · refine zg_tabIn (tgt := 104) 103 dd_138_1 q5 (by decide) (by decide) (by decide) ?_
    refine zg_aload_n dd_138_104 rfl (j := 0) rfl ?_
    refine zg_getR dd_138_105 zl_T_12 zCs_0 rfl zCr_0_0 ?_
    refine zg_getR dd_138_108 zl_T_255 zCs_1 rfl zCr_1_2 ?_
    refine zg_getI (x := (I 23 3)) dd_138_111 zl_T_282 zCs_23 rfl rfl ?_
    obtain rfl := Option.some.inj h
    exact zg_iret dd_138_114 rfl
  rcases z_if h with ⟨q6, h⟩ | ⟨q6, h⟩
  · refine zg_tabIn (tgt := 115) 114 dd_138_1 q6 (by decide) (by decide) (by decide) ?_
    refine zg_aload_n dd_138_115 rfl (j := 0) rfl ?_
    refine zg_getR dd_138_116 zl_T_12 zCs_0 rfl zCr_0_0 ?_
    refine zg_getR dd_138_119 zl_T_122 zCs_1 rfl zCr_1_3 ?_
    refine zg_getI (x := (I 29 1)) dd_138_122 zl_T_311 zCs_29 rfl rfl ?_
    obtain rfl := Option.some.inj h
    exact zg_iret dd_138_125 rfl
  rcases z_if h with ⟨q7, h⟩ | ⟨q7, h⟩
  · refine zg_tabIn (tgt := 126) 125 dd_138_1 q7 (by decide) (by decide) (by decide) ?_
    refine zg_aload_n dd_138_126 rfl (j := 0) rfl ?_
    refine zg_getR dd_138_127 zl_T_12 zCs_0 rfl zCr_0_0 ?_
    refine zg_getI (x := (I 1 7)) dd_138_130 zl_T_155 zCs_1 rfl rfl ?_
    obtain rfl := Option.some.inj h
    exact zg_iret dd_138_133 rfl
  rcases z_if h with ⟨q8, h⟩ | ⟨q8, h⟩
  · refine zg_tabIn (tgt := 134) 133 dd_138_1 q8 (by decide) (by decide) (by decide) ?_
    refine zg_aload_n dd_138_134 rfl (j := 0) rfl ?_
    refine zg_getR dd_138_135 zl_T_12 zCs_0 rfl zCr_0_0 ?_
    refine zg_getI (x := (I 1 9)) dd_138_138 zl_T_371 zCs_1 rfl rfl ?_
    obtain rfl := Option.some.inj h
    exact zg_iret dd_138_141 rfl
  rcases z_if h with ⟨q9, h⟩ | ⟨q9, h⟩
  · refine zg_tabIn (tgt := 142) 141 dd_138_1 q9 (by decide) (by decide) (by decide) ?_
    refine zg_aload_n dd_138_142 rfl (j := 0) rfl ?_
    refine zg_getR dd_138_143 zl_T_72 zCs_0 rfl zCr_0_12 ?_
    refine zg_getI (x := (I 184 1)) dd_138_146 zl_T_341 zCs_184 rfl rfl ?_
    obtain rfl := Option.some.inj h
    exact zg_iret dd_138_149 rfl
  rcases z_if h with ⟨q10, h⟩ | ⟨q10, h⟩
  · refine zg_tabIn (tgt := 150) 149 dd_138_1 q10 (by decide) (by decide) (by decide) ?_
    refine zg_aload_n dd_138_150 rfl (j := 0) rfl ?_
    refine zg_getR dd_138_151 zl_T_12 zCs_0 rfl zCr_0_0 ?_
    refine zg_getI (x := (I 1 10)) dd_138_154 zl_T_331 zCs_1 rfl rfl ?_
    obtain rfl := Option.some.inj h
    exact zg_iret dd_138_157 rfl
  rcases z_if h with ⟨q11, h⟩ | ⟨q11, h⟩
  · refine zg_tabIn (tgt := 158) 157 dd_138_1 q11 (by decide) (by decide) (by decide) ?_
    refine zg_aload_n dd_138_158 rfl (j := 0) rfl ?_
    refine zg_getR dd_138_159 zl_T_12 zCs_0 rfl zCr_0_0 ?_
    refine zg_getR dd_138_162 zl_T_122 zCs_1 rfl zCr_1_3 ?_
    refine zg_getI (x := (I 29 0)) dd_138_165 zl_T_126 zCs_29 rfl rfl ?_
    obtain rfl := Option.some.inj h
    exact zg_iret dd_138_168 rfl
  refine zg_tabOut (tgt := 169) [(0 : Int32), (1 : Int32), (2 : Int32), (3 : Int32), (4 : Int32), (5 : Int32), (6 : Int32), (7 : Int32), (8 : Int32), (9 : Int32), (10 : Int32)] dd_138_1 (by decide +kernel) (by simp only [List.mem_cons, List.not_mem_nil, or_false]; rintro _ (rfl | rfl | rfl | rfl | rfl | rfl | rfl | rfl | rfl | rfl | rfl) <;> assumption) (by decide) ?_
  refine zg_aload_n dd_138_169 rfl (j := 0) rfl ?_
  refine zg_iconst dd_138_170 kI_1 ?_
  obtain ⟨r12, e13, h⟩ := z_bd h
  refine zg_invV_i (av := [.inl (1 : Int32)]) (st := []) (n := 1) dd_138_171 ca_2 zw_430 zw_432 zv_0 zCs_0 zcl_11 rfl (mt_fc_T_refuse e13) rfl ⟨by decide +kernel, by decide⟩ (Nat.le_of_ble_eq_true rfl) ?_
  obtain rfl := Option.some.inj h
  exact zg_iret dd_138_174 rfl
/-! TurnedLand.told(0, None) -/
def fc_T_told (I : zI) (a1 : Int32) : Option (Int32 × zI) :=
  (fc_T_within I a1 (1 : Int32) (6 : Int32)).bind fun r1 =>
  if r1 = 0 then
    (fc_T_refuse I (1 : Int32)).bind fun r5 =>
    some (r5.1, r5.2)
  else
    z_guard (zb a1 7) <|
    some ((I 93 a1.toNatClampNeg), I)
set_option maxRecDepth 20000 in
theorem mt_fc_T_told {I : zI} {a1 : Int32} {res : (Int32 × zI)} (h : fc_T_told I a1 = some res) : zM 3 ym_139 [.inr (.inr (some 0)), .inl a1] (zCs, zCr, I) (some (.inl res.1)) (zCs, zCr, res.2) 0 0 := by
  refine zM_of (by decide) (Nat.le_of_ble_eq_true rfl) (lv := [(0, .inr (.inr (some 0))), (1, .inl a1)]) rfl ?_
  rw [fc_T_told] at h
  refine zg_iload_n dd_139_0 rfl (j := 1) rfl ?_
  refine zg_iconst dd_139_1 kI_1 ?_
  refine zg_bipush dd_139_2 kB_6 ?_
  obtain ⟨r1, e2, h⟩ := z_bd h
  refine zg_invS_i (av := [.inl a1, .inl (1 : Int32), .inl (6 : Int32)]) (st := []) (n := 3) dd_139_4 ca_1 zw_427 zw_428 (mt_fc_T_within e2) rfl ⟨by decide +kernel, by decide⟩ (Nat.le_of_ble_eq_true rfl) ?_
  refine zg_if_ne (tgt := 16) dd_139_7 (by decide) (fun q3 => ?_) (fun q3 => ?_)
  · replace h := z_f h q3
    refine zg_aload_n dd_139_16 rfl (j := 0) rfl ?_
    refine zg_getR dd_139_17 zl_T_23 zCs_0 rfl zCr_0_3 ?_
    refine zg_iload_n dd_139_20 rfl (j := 1) rfl ?_
    obtain ⟨g4, h⟩ := z_gd h
    refine zg_iald (w := (I 93 a1.toNatClampNeg)) dd_139_21 zCs_93 g4 rfl ?_
    obtain rfl := Option.some.inj h
    exact zg_iret dd_139_22 rfl
  · replace h := z_t h q3
    refine zg_aload_n dd_139_10 rfl (j := 0) rfl ?_
    refine zg_iconst dd_139_11 kI_1 ?_
    obtain ⟨r5, e6, h⟩ := z_bd h
    refine zg_invV_i (av := [.inl (1 : Int32)]) (st := []) (n := 1) dd_139_12 ca_2 zw_430 zw_432 zv_0 zCs_0 zcl_11 rfl (mt_fc_T_refuse e6) rfl ⟨by decide +kernel, by decide⟩ (Nat.le_of_ble_eq_true rfl) ?_
    obtain rfl := Option.some.inj h
    exact zg_iret dd_139_15 rfl
