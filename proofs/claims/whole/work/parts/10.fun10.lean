/-! TurnedLandModel.isSo[0, None] -/
def fm_isSo (I : zI) (a1 : Int32) : Option (Int32 × zI) :=
  (fm_goes I a1 (0 : Int32)).bind fun r1 =>
  if r1.1 = 0 then
    some ((0 : Int32), r1.2)
  else
    (fm_walkOf r1.2 a1 (1 : Int32)).bind fun r4 =>
    (fm_walkOf r1.2 a1 (3 : Int32)).bind fun r6 =>
    (fm_walkOf r1.2 a1 (0 : Int32)).bind fun r8 =>
    if r8 = (1 : Int32) then
      if ((r1.2 0 17) / (2 : Int32)) = (((2 : Int32) * r4) / (2 : Int32)) then
        some ((1 : Int32), r1.2)
      else
        some ((0 : Int32), r1.2)
    else if r8 = (2 : Int32) then
      if (r1.2 0 17) = ((2 : Int32) * r4) then
        some ((1 : Int32), r1.2)
      else
        some ((0 : Int32), r1.2)
    else if r8 = (3 : Int32) then
      if (r1.2 0 17) = (((2 : Int32) * r4) + (1 : Int32)) then
        some ((1 : Int32), r1.2)
      else
        some ((0 : Int32), r1.2)
    else if r8 = (4 : Int32) then
      (fm_is r1.2 (a1 + (1 : Int32)) (2 : Int32)).bind fun r17 =>
      if r17 = 0 then
        some ((0 : Int32), r1.2)
      else
        (fm_goes r1.2 (a1 + (1 : Int32)) (0 : Int32)).bind fun r20 =>
        if r20.1 = 0 then
          some ((0 : Int32), r20.2)
        else
          if (r20.2 0 17) = (r1.2 0 17) then
            some ((1 : Int32), r20.2)
          else
            some ((0 : Int32), r20.2)
    else if r8 = (5 : Int32) then
      if r6 < 0 then
        some ((1 : Int32), r1.2)
      else
        if (r1.2 0 18) = r6 then
          some ((1 : Int32), r1.2)
        else
          some ((0 : Int32), r1.2)
    else if r8 = (6 : Int32) then
      if (r1.2 0 17) = ((2 : Int32) * r4) then
        if (r1.2 0 20) = (((1 : Int32) <<< ((r1.2 1 (0 : Int32).toNatClampNeg) &&& 31)) - (1 : Int32)) then
          some ((1 : Int32), r1.2)
        else
          some ((0 : Int32), r1.2)
      else
        some ((0 : Int32), r1.2)
    else
      some ((1 : Int32), r1.2)
set_option maxRecDepth 20000 in
theorem mt_fm_isSo {I : zI} {a1 : Int32} {res : (Int32 × zI)} (h : fm_isSo I a1 = some res) : zM 6 ym_203 [.inr (.inr (some 0)), .inl a1] (zMs, zMr, I) (some (.inl res.1)) (zMs, zMr, res.2) 0 0 := by
  refine zM_of (by decide) (Nat.le_of_ble_eq_true rfl) (lv := [(0, .inr (.inr (some 0))), (1, .inl a1)]) rfl ?_
  rw [fm_isSo] at h
  refine zg_aload_n dd_203_0 rfl (j := 0) rfl ?_
  refine zg_iload_n dd_203_1 rfl (j := 1) rfl ?_
  refine zg_iconst dd_203_2 kI_0 ?_
  obtain ⟨r1, e2, h⟩ := z_bd h
  refine zg_invV_i (av := [.inl a1, .inl (0 : Int32)]) (st := []) (n := 2) dd_203_3 ca_204 zw_1416 zw_1418 zv_67 zMs_0 zcl_12 rfl (mt_fm_goes e2) rfl ⟨by decide +kernel, by decide⟩ (Nat.le_of_ble_eq_true rfl) ?_
  refine zg_if_ne (tgt := 11) dd_203_6 (by decide) (fun q3 => ?_) (fun q3 => ?_)
  · replace h := z_f h q3
    refine zg_aload_n dd_203_11 rfl (j := 0) rfl ?_
    refine zg_getI (x := (r1.2 0 17)) dd_203_12 zl_M_239 zMs_0 rfl rfl ?_
    refine zg_istore_n dd_203_15 rfl (Nat.le_of_ble_eq_true rfl) (lv' := [(2, .inl (r1.2 0 17)), (0, .inr (.inr (some 0))), (1, .inl a1)]) rfl ?_
    refine zg_iconst dd_203_16 kI_2 ?_
    refine zg_aload_n dd_203_17 rfl (j := 1) rfl ?_
    refine zg_iload_n dd_203_18 rfl (j := 2) rfl ?_
    refine zg_iconst dd_203_19 kI_1 ?_
    obtain ⟨r4, e5, h⟩ := z_bd h
    refine zg_invV_i (av := [.inl a1, .inl (1 : Int32)]) (st := [.inl (2 : Int32)]) (n := 2) dd_203_20 ca_205 zw_1408 zw_1410 zv_65 zMs_0 zcl_12 rfl (mt_fm_walkOf e5) rfl ⟨by decide +kernel, by decide⟩ (Nat.le_of_ble_eq_true rfl) ?_
    refine zg_imul dd_203_23 ?_
    refine zg_istore_n dd_203_24 rfl (Nat.le_of_ble_eq_true rfl) (lv' := [(3, .inl ((2 : Int32) * r4)), (2, .inl (r1.2 0 17)), (0, .inr (.inr (some 0))), (1, .inl a1)]) rfl ?_
    refine zg_aload_n dd_203_25 rfl (j := 2) rfl ?_
    refine zg_iload_n dd_203_26 rfl (j := 3) rfl ?_
    refine zg_iconst dd_203_27 kI_3 ?_
    obtain ⟨r6, e7, h⟩ := z_bd h
    refine zg_invV_i (av := [.inl a1, .inl (3 : Int32)]) (st := []) (n := 2) dd_203_28 ca_205 zw_1408 zw_1410 zv_65 zMs_0 zcl_12 rfl (mt_fm_walkOf e7) rfl ⟨by decide +kernel, by decide⟩ (Nat.le_of_ble_eq_true rfl) ?_
    refine zg_istore dd_203_31 (Nat.le_of_ble_eq_true rfl) (lv' := [(4, .inl r6), (3, .inl ((2 : Int32) * r4)), (2, .inl (r1.2 0 17)), (0, .inr (.inr (some 0))), (1, .inl a1)]) rfl ?_
    refine zg_aload_n dd_203_33 rfl (j := 3) rfl ?_
    refine zg_iload_n dd_203_34 rfl (j := 4) rfl ?_
    refine zg_iconst dd_203_35 kI_0 ?_
    obtain ⟨r8, e9, h⟩ := z_bd h
    refine zg_invV_i (av := [.inl a1, .inl (0 : Int32)]) (st := []) (n := 2) dd_203_36 ca_205 zw_1408 zw_1410 zv_65 zMs_0 zcl_12 rfl (mt_fm_walkOf e9) rfl ⟨by decide +kernel, by decide⟩ (Nat.le_of_ble_eq_true rfl) ?_
    rcases z_if h with ⟨q10, h⟩ | ⟨q10, h⟩
    · refine zg_tabIn (tgt := 76) 37 dd_203_39 q10 (by decide) (by decide) (by decide) ?_
      refine zg_iload_n dd_203_76 rfl (j := 2) rfl ?_
      refine zg_iconst dd_203_77 kI_2 ?_
      refine zg_idiv dd_203_78 (by decide) ?_
      refine zg_iload_n dd_203_79 rfl (j := 1) rfl ?_
      refine zg_iconst dd_203_80 kI_2 ?_
      refine zg_idiv dd_203_81 (by decide) ?_
      refine zg_icmp_ne (tgt := 89) dd_203_82 (by decide) (fun q11 => ?_) (fun q11 => ?_)
      · replace h := z_f h q11
        refine zg_iconst dd_203_89 kI_0 ?_
        obtain rfl := Option.some.inj h
        exact zg_zret dd_203_90 rfl zSt_b0.1
      · replace h := z_t h q11
        refine zg_iconst dd_203_85 kI_1 ?_
        refine zg_goto (tgt := 90) dd_203_86 (by decide) ?_
        obtain rfl := Option.some.inj h
        exact zg_zret dd_203_90 rfl zSt_b1.1
    rcases z_if h with ⟨q12, h⟩ | ⟨q12, h⟩
    · refine zg_tabIn (tgt := 91) 52 dd_203_39 q12 (by decide) (by decide) (by decide) ?_
      refine zg_iload_n dd_203_91 rfl (j := 2) rfl ?_
      refine zg_iload_n dd_203_92 rfl (j := 1) rfl ?_
      refine zg_icmp_ne (tgt := 100) dd_203_93 (by decide) (fun q13 => ?_) (fun q13 => ?_)
      · replace h := z_f h q13
        refine zg_iconst dd_203_100 kI_0 ?_
        obtain rfl := Option.some.inj h
        exact zg_zret dd_203_101 rfl zSt_b0.1
      · replace h := z_t h q13
        refine zg_iconst dd_203_96 kI_1 ?_
        refine zg_goto (tgt := 101) dd_203_97 (by decide) ?_
        obtain rfl := Option.some.inj h
        exact zg_zret dd_203_101 rfl zSt_b1.1
    rcases z_if h with ⟨q14, h⟩ | ⟨q14, h⟩
    · refine zg_tabIn (tgt := 102) 63 dd_203_39 q14 (by decide) (by decide) (by decide) ?_
      refine zg_iload_n dd_203_102 rfl (j := 2) rfl ?_
      refine zg_iload_n dd_203_103 rfl (j := 1) rfl ?_
      refine zg_iconst dd_203_104 kI_1 ?_
      refine zg_iadd dd_203_105 ?_
      refine zg_icmp_ne (tgt := 113) dd_203_106 (by decide) (fun q15 => ?_) (fun q15 => ?_)
      · replace h := z_f h q15
        refine zg_iconst dd_203_113 kI_0 ?_
        obtain rfl := Option.some.inj h
        exact zg_zret dd_203_114 rfl zSt_b0.1
      · replace h := z_t h q15
        refine zg_iconst dd_203_109 kI_1 ?_
        refine zg_goto (tgt := 114) dd_203_110 (by decide) ?_
        obtain rfl := Option.some.inj h
        exact zg_zret dd_203_114 rfl zSt_b1.1
    rcases z_if h with ⟨q16, h⟩ | ⟨q16, h⟩
    · refine zg_tabIn (tgt := 115) 76 dd_203_39 q16 (by decide) (by decide) (by decide) ?_
      refine zg_aload_n dd_203_115 rfl (j := 3) rfl ?_
      refine zg_iload_n dd_203_116 rfl (j := 4) rfl ?_
      refine zg_iconst dd_203_117 kI_1 ?_
      refine zg_iadd dd_203_118 ?_
      refine zg_iconst dd_203_119 kI_2 ?_
      obtain ⟨r17, e18, h⟩ := z_bd h
      refine zg_invV_i (av := [.inl (a1 + (1 : Int32)), .inl (2 : Int32)]) (st := []) (n := 2) dd_203_120 ca_144 zw_1150 zw_1152 zv_32 zMs_0 zcl_12 rfl (mt_fm_is e18) rfl ⟨by decide +kernel, by decide⟩ (Nat.le_of_ble_eq_true rfl) ?_
      refine zg_if_eq (tgt := 149) dd_203_123 (by decide) (fun q19 => ?_) (fun q19 => ?_)
      · replace h := z_t h q19
        refine zg_iconst dd_203_149 kI_0 ?_
        obtain rfl := Option.some.inj h
        exact zg_zret dd_203_150 rfl zSt_b0.1
      · replace h := z_f h q19
        refine zg_aload_n dd_203_126 rfl (j := 3) rfl ?_
        refine zg_iload_n dd_203_127 rfl (j := 4) rfl ?_
        refine zg_iconst dd_203_128 kI_1 ?_
        refine zg_iadd dd_203_129 ?_
        refine zg_iconst dd_203_130 kI_0 ?_
        obtain ⟨r20, e21, h⟩ := z_bd h
        refine zg_invV_i (av := [.inl (a1 + (1 : Int32)), .inl (0 : Int32)]) (st := []) (n := 2) dd_203_131 ca_204 zw_1416 zw_1418 zv_67 zMs_0 zcl_12 rfl (mt_fm_goes e21) rfl ⟨by decide +kernel, by decide⟩ (Nat.le_of_ble_eq_true rfl) ?_
        refine zg_if_eq (tgt := 149) dd_203_134 (by decide) (fun q22 => ?_) (fun q22 => ?_)
        · replace h := z_t h q22
          refine zg_iconst dd_203_149 kI_0 ?_
          obtain rfl := Option.some.inj h
          exact zg_zret dd_203_150 rfl zSt_b0.1
        · replace h := z_f h q22
          refine zg_aload_n dd_203_137 rfl (j := 3) rfl ?_
          refine zg_getI (x := (r20.2 0 17)) dd_203_138 zl_M_239 zMs_0 rfl rfl ?_
          refine zg_iload_n dd_203_141 rfl (j := 2) rfl ?_
          refine zg_icmp_ne (tgt := 149) dd_203_142 (by decide) (fun q23 => ?_) (fun q23 => ?_)
          · replace h := z_f h q23
            refine zg_iconst dd_203_149 kI_0 ?_
            obtain rfl := Option.some.inj h
            exact zg_zret dd_203_150 rfl zSt_b0.1
          · replace h := z_t h q23
            refine zg_iconst dd_203_145 kI_1 ?_
            refine zg_goto (tgt := 150) dd_203_146 (by decide) ?_
            obtain rfl := Option.some.inj h
            exact zg_zret dd_203_150 rfl zSt_b1.1
    rcases z_if h with ⟨q24, h⟩ | ⟨q24, h⟩
    · refine zg_tabIn (tgt := 151) 112 dd_203_39 q24 (by decide) (by decide) (by decide) ?_
      refine zg_iload dd_203_151 (j := 0) rfl ?_
      refine zg_if_lt (tgt := 165) dd_203_153 (by decide) (fun q25 => ?_) (fun q25 => ?_)
      · replace h := z_t h q25
        refine zg_iconst dd_203_165 kI_1 ?_
        refine zg_goto (tgt := 170) dd_203_166 (by decide) ?_
        obtain rfl := Option.some.inj h
        exact zg_zret dd_203_170 rfl zSt_b1.1
      · replace h := z_f h q25
        refine zg_aload_n dd_203_156 rfl (j := 3) rfl ?_
        refine zg_getI (x := (r1.2 0 18)) dd_203_157 zl_M_242 zMs_0 rfl rfl ?_
        refine zg_iload dd_203_160 (j := 0) rfl ?_
        refine zg_icmp_ne (tgt := 169) dd_203_162 (by decide) (fun q26 => ?_) (fun q26 => ?_)
        · replace h := z_f h q26
          refine zg_iconst dd_203_169 kI_0 ?_
          obtain rfl := Option.some.inj h
          exact zg_zret dd_203_170 rfl zSt_b0.1
        · replace h := z_t h q26
          refine zg_iconst dd_203_165 kI_1 ?_
          refine zg_goto (tgt := 170) dd_203_166 (by decide) ?_
          obtain rfl := Option.some.inj h
          exact zg_zret dd_203_170 rfl zSt_b1.1
    rcases z_if h with ⟨q27, h⟩ | ⟨q27, h⟩
    · refine zg_tabIn (tgt := 171) 132 dd_203_39 q27 (by decide) (by decide) (by decide) ?_
      refine zg_iload_n dd_203_171 rfl (j := 2) rfl ?_
      refine zg_iload_n dd_203_172 rfl (j := 1) rfl ?_
      refine zg_icmp_ne (tgt := 197) dd_203_173 (by decide) (fun q28 => ?_) (fun q28 => ?_)
      · replace h := z_f h q28
        refine zg_iconst dd_203_197 kI_0 ?_
        obtain rfl := Option.some.inj h
        exact zg_zret dd_203_198 rfl zSt_b0.1
      · replace h := z_t h q28
        refine zg_aload_n dd_203_176 rfl (j := 3) rfl ?_
        refine zg_getI (x := (r1.2 0 20)) dd_203_177 zl_M_248 zMs_0 rfl rfl ?_
        refine zg_iconst dd_203_180 kI_1 ?_
        refine zg_aload_n dd_203_181 rfl (j := 3) rfl ?_
        refine zg_getR dd_203_182 zl_M_9 zMs_0 rfl zMr_0_0 ?_
        refine zg_iconst dd_203_185 kI_0 ?_
        refine zg_iald (w := (r1.2 1 (0 : Int32).toNatClampNeg)) dd_203_186 zMs_1 (by decide) rfl ?_
        refine zg_ishl dd_203_187 ?_
        refine zg_iconst dd_203_188 kI_1 ?_
        refine zg_isub dd_203_189 ?_
        refine zg_icmp_ne (tgt := 197) dd_203_190 (by decide) (fun q29 => ?_) (fun q29 => ?_)
        · replace h := z_f h q29
          refine zg_iconst dd_203_197 kI_0 ?_
          obtain rfl := Option.some.inj h
          exact zg_zret dd_203_198 rfl zSt_b0.1
        · replace h := z_t h q29
          refine zg_iconst dd_203_193 kI_1 ?_
          refine zg_goto (tgt := 198) dd_203_194 (by decide) ?_
          obtain rfl := Option.some.inj h
          exact zg_zret dd_203_198 rfl zSt_b1.1
    refine zg_tabOut (tgt := 199) [(1 : Int32), (2 : Int32), (3 : Int32), (4 : Int32), (5 : Int32), (6 : Int32)] dd_203_39 (by decide +kernel) (by simp only [List.mem_cons, List.not_mem_nil, or_false]; rintro _ (rfl | rfl | rfl | rfl | rfl | rfl) <;> assumption) (by decide) ?_
    refine zg_iconst dd_203_199 kI_1 ?_
    obtain rfl := Option.some.inj h
    exact zg_zret dd_203_200 rfl zSt_b1.1
  · replace h := z_t h q3
    refine zg_iconst dd_203_9 kI_0 ?_
    obtain rfl := Option.some.inj h
    exact zg_zret dd_203_10 rfl zSt_b0.1
/-! TurnedLandModel.walkIs(0, None, None) -/
def fm_walkIs (I : zI) (a1 : Int32) (a2 : Int32) : Option (Int32 × zI) :=
  (fm_is I a1 (2 : Int32)).bind fun r1 =>
  if r1 = 0 then
    (fm_finding I (-1000001 : Int32)).bind fun r4 =>
    some (r4.1, r4.2)
  else
    (fm_within I a2 (0 : Int32) (4 : Int32)).bind fun r6 =>
    if r6 = 0 then
      (fm_finding I (-1000001 : Int32)).bind fun r15 =>
      some (r15.1, r15.2)
    else
      if (4 : Int32) ≤ a2 then
        (fm_isSo I a1).bind fun r10 =>
        if r10.1 = 0 then
          some ((0 : Int32), r10.2)
        else
          some ((1 : Int32), r10.2)
      else
        (fm_walkOf I a1 a2).bind fun r13 =>
        some (r13, I)
set_option maxRecDepth 20000 in
theorem mt_fm_walkIs {I : zI} {a1 : Int32} {a2 : Int32} {res : (Int32 × zI)} (h : fm_walkIs I a1 a2 = some res) : zM 7 ym_202 [.inr (.inr (some 0)), .inl a1, .inl a2] (zMs, zMr, I) (some (.inl res.1)) (zMs, zMr, res.2) 0 0 := by
  refine zM_of (by decide) (Nat.le_of_ble_eq_true rfl) (lv := [(0, .inr (.inr (some 0))), (1, .inl a1), (2, .inl a2)]) rfl ?_
  rw [fm_walkIs] at h
  refine zg_aload_n dd_202_0 rfl (j := 0) rfl ?_
  refine zg_iload_n dd_202_1 rfl (j := 1) rfl ?_
  refine zg_iconst dd_202_2 kI_2 ?_
  obtain ⟨r1, e2, h⟩ := z_bd h
  refine zg_invV_i (av := [.inl a1, .inl (2 : Int32)]) (st := []) (n := 2) dd_202_3 ca_144 zw_1150 zw_1152 zv_32 zMs_0 zcl_12 rfl (mt_fm_is e2) rfl ⟨by decide +kernel, by decide⟩ (Nat.le_of_ble_eq_true rfl) ?_
  refine zg_if_eq (tgt := 18) dd_202_6 (by decide) (fun q3 => ?_) (fun q3 => ?_)
  · replace h := z_t h q3
    refine zg_aload_n dd_202_18 rfl (j := 0) rfl ?_
    refine zg_ldc dd_202_19 zw_1139 ?_
    obtain ⟨r4, e5, h⟩ := z_bd h
    refine zg_invV_i (av := [.inl (-1000001 : Int32)]) (st := []) (n := 1) dd_202_21 ca_142 zw_1140 zw_1142 zv_31 zMs_0 zcl_12 rfl (mt_fm_finding e5) rfl ⟨by decide +kernel, by decide⟩ (Nat.le_of_ble_eq_true rfl) ?_
    obtain rfl := Option.some.inj h
    exact zg_iret dd_202_24 rfl
  · replace h := z_f h q3
    refine zg_iload_n dd_202_9 rfl (j := 2) rfl ?_
    refine zg_iconst dd_202_10 kI_0 ?_
    refine zg_iconst dd_202_11 kI_4 ?_
    obtain ⟨r6, e7, h⟩ := z_bd h
    refine zg_invS_i (av := [.inl a2, .inl (0 : Int32), .inl (4 : Int32)]) (st := []) (n := 3) dd_202_12 ca_141 zw_1136 zw_1137 (mt_fm_within e7) rfl ⟨by decide +kernel, by decide⟩ (Nat.le_of_ble_eq_true rfl) ?_
    refine zg_if_ne (tgt := 25) dd_202_15 (by decide) (fun q8 => ?_) (fun q8 => ?_)
    · replace h := z_f h q8
      refine zg_iload_n dd_202_25 rfl (j := 2) rfl ?_
      refine zg_iconst dd_202_26 kI_4 ?_
      refine zg_icmp_ge (tgt := 39) dd_202_27 (by decide) (fun q9 => ?_) (fun q9 => ?_)
      · replace h := z_t h q9
        refine zg_aload_n dd_202_39 rfl (j := 0) rfl ?_
        refine zg_iload_n dd_202_40 rfl (j := 1) rfl ?_
        obtain ⟨r10, e11, h⟩ := z_bd h
        refine zg_invV_i (av := [.inl a1]) (st := []) (n := 1) dd_202_41 ca_203 zw_1412 zw_1414 zv_66 zMs_0 zcl_12 rfl (mt_fm_isSo e11) rfl ⟨by decide +kernel, by decide⟩ (Nat.le_of_ble_eq_true rfl) ?_
        refine zg_if_eq (tgt := 51) dd_202_44 (by decide) (fun q12 => ?_) (fun q12 => ?_)
        · replace h := z_t h q12
          refine zg_iconst dd_202_51 kI_0 ?_
          obtain rfl := Option.some.inj h
          exact zg_iret dd_202_52 rfl
        · replace h := z_f h q12
          refine zg_iconst dd_202_47 kI_1 ?_
          refine zg_goto (tgt := 52) dd_202_48 (by decide) ?_
          obtain rfl := Option.some.inj h
          exact zg_iret dd_202_52 rfl
      · replace h := z_f h q9
        refine zg_aload_n dd_202_30 rfl (j := 0) rfl ?_
        refine zg_iload_n dd_202_31 rfl (j := 1) rfl ?_
        refine zg_iload_n dd_202_32 rfl (j := 2) rfl ?_
        obtain ⟨r13, e14, h⟩ := z_bd h
        refine zg_invV_i (av := [.inl a1, .inl a2]) (st := []) (n := 2) dd_202_33 ca_205 zw_1408 zw_1410 zv_65 zMs_0 zcl_12 rfl (mt_fm_walkOf e14) rfl ⟨by decide +kernel, by decide⟩ (Nat.le_of_ble_eq_true rfl) ?_
        refine zg_goto (tgt := 52) dd_202_36 (by decide) ?_
        obtain rfl := Option.some.inj h
        exact zg_iret dd_202_52 rfl
    · replace h := z_t h q8
      refine zg_aload_n dd_202_18 rfl (j := 0) rfl ?_
      refine zg_ldc dd_202_19 zw_1139 ?_
      obtain ⟨r15, e16, h⟩ := z_bd h
      refine zg_invV_i (av := [.inl (-1000001 : Int32)]) (st := []) (n := 1) dd_202_21 ca_142 zw_1140 zw_1142 zv_31 zMs_0 zcl_12 rfl (mt_fm_finding e16) rfl ⟨by decide +kernel, by decide⟩ (Nat.le_of_ble_eq_true rfl) ?_
      obtain rfl := Option.some.inj h
      exact zg_iret dd_202_24 rfl
/-! TurnedLandModel.above[None] -/
def fm_above (I : zI) (a0 : Int32) : Option Int32 :=
  if a0 = 0 then
    some (-1 : Int32)
  else
    if a0 = (2 : Int32) then
      some (1 : Int32)
    else
      if a0 = (3 : Int32) then
        some (1 : Int32)
      else
        if a0 = (6 : Int32) then
          some (2 : Int32)
        else
          some (0 : Int32)
set_option maxRecDepth 20000 in
theorem mt_fm_above {I : zI} {a0 : Int32} {res : Int32} (h : fm_above I a0 = some res) : zM 1 ym_207 [.inl a0] (zMs, zMr, I) (some (.inl res)) (zMs, zMr, I) 0 0 := by
  refine zM_of (by decide) (Nat.le_of_ble_eq_true rfl) (lv := [(0, .inl a0)]) rfl ?_
  rw [fm_above] at h
  refine zg_iload_n dd_207_0 rfl (j := 0) rfl ?_
  refine zg_if_ne (tgt := 8) dd_207_1 (by decide) (fun q1 => ?_) (fun q1 => ?_)
  · replace h := z_f h q1
    refine zg_iload_n dd_207_8 rfl (j := 0) rfl ?_
    refine zg_iconst dd_207_9 kI_2 ?_
    refine zg_icmp_eq (tgt := 18) dd_207_10 (by decide) (fun q2 => ?_) (fun q2 => ?_)
    · replace h := z_t h q2
      refine zg_iconst dd_207_18 kI_1 ?_
      refine zg_goto (tgt := 33) dd_207_19 (by decide) ?_
      obtain rfl := Option.some.inj h
      exact zg_iret dd_207_33 rfl
    · replace h := z_f h q2
      refine zg_iload_n dd_207_13 rfl (j := 0) rfl ?_
      refine zg_iconst dd_207_14 kI_3 ?_
      refine zg_icmp_ne (tgt := 22) dd_207_15 (by decide) (fun q3 => ?_) (fun q3 => ?_)
      · replace h := z_f h q3
        refine zg_iload_n dd_207_22 rfl (j := 0) rfl ?_
        refine zg_bipush dd_207_23 kB_6 ?_
        refine zg_icmp_ne (tgt := 32) dd_207_25 (by decide) (fun q4 => ?_) (fun q4 => ?_)
        · replace h := z_f h q4
          refine zg_iconst dd_207_32 kI_0 ?_
          obtain rfl := Option.some.inj h
          exact zg_iret dd_207_33 rfl
        · replace h := z_t h q4
          refine zg_iconst dd_207_28 kI_2 ?_
          refine zg_goto (tgt := 33) dd_207_29 (by decide) ?_
          obtain rfl := Option.some.inj h
          exact zg_iret dd_207_33 rfl
      · replace h := z_t h q3
        refine zg_iconst dd_207_18 kI_1 ?_
        refine zg_goto (tgt := 33) dd_207_19 (by decide) ?_
        obtain rfl := Option.some.inj h
        exact zg_iret dd_207_33 rfl
  · replace h := z_t h q1
    refine zg_iconst dd_207_4 kI_m1 ?_
    refine zg_goto (tgt := 33) dd_207_5 (by decide) ?_
    obtain rfl := Option.some.inj h
    exact zg_iret dd_207_33 rfl
/-! TurnedLandModel.as(0, None, None) -/
def fm_as_L33 : Nat → Int32 → Int32 → Int32 → zI → Option (Int32 × zI)
  | 0, _, _, _, _ => none
  | nf + 1, v1, v2, v3, I =>
    if v3 < 0 then
      if 0 ≤ v3 then
        (fm_walkOf I v1 (2 : Int32)).bind fun r13 =>
        some (r13, I)
      else
        (fm_finding I (-1000005 : Int32)).bind fun r15 =>
        some (r15.1, r15.2)
    else
      if v3 = v2 then
        if 0 ≤ v3 then
          (fm_walkOf I v1 (2 : Int32)).bind fun r19 =>
          some (r19, I)
        else
          (fm_finding I (-1000005 : Int32)).bind fun r21 =>
          some (r21.1, r21.2)
      else
        (fm_above I v3).bind fun r23 =>
        fm_as_L33 nf v1 v2 r23 I
def fm_as (I : zI) (a1 : Int32) (a2 : Int32) : Option (Int32 × zI) :=
  (fm_is I a1 (2 : Int32)).bind fun r1 =>
  if r1 = 0 then
    (fm_finding I (-1000001 : Int32)).bind fun r4 =>
    some (r4.1, r4.2)
  else
    (fm_within I a2 (0 : Int32) (6 : Int32)).bind fun r6 =>
    if r6 = 0 then
      (fm_finding I (-1000001 : Int32)).bind fun r25 =>
      some (r25.1, r25.2)
    else
      (fm_walkOf I a1 (0 : Int32)).bind fun r9 =>
      fm_as_L33
        100 a1 a2 r9 I
set_option maxRecDepth 20000 in
theorem lt_fm_as_L33 {res : (Int32 × zI)} : ∀ (nf : Nat) (v1 : Int32) (v2 : Int32) (v3 : Int32) (I : zI), fm_as_L33 nf v1 v2 v3 I = some res → zG 3 ym_206 0 0 (some (.inl res.1)) (zMs, zMr, res.2) zMs.length 33 [(0, .inr (.inr (some 0))), (1, .inl v1), (2, .inl v2), (3, .inl v3)] [] (zMs, zMr, I) 0 0 := by
  intro nf
  induction nf with
  | zero =>
    intro v1 v2 v3 I h
    have h2 : none = some res := h
    cases h2
  | succ nf ih =>
    intro v1 v2 v3 I h
    rw [fm_as_L33] at h
    refine zg_iload_n dd_206_33 rfl (j := 3) rfl ?_
    refine zg_if_lt (tgt := 50) dd_206_34 (by decide) (fun q11 => ?_) (fun q11 => ?_)
    · replace h := z_t h q11
      refine zg_iload_n dd_206_50 rfl (j := 3) rfl ?_
      refine zg_if_ge (tgt := 64) dd_206_51 (by decide) (fun q12 => ?_) (fun q12 => ?_)
      · replace h := z_t h q12
        refine zg_aload_n dd_206_64 rfl (j := 0) rfl ?_
        refine zg_iload_n dd_206_65 rfl (j := 1) rfl ?_
        refine zg_iconst dd_206_66 kI_2 ?_
        obtain ⟨r13, e14, h⟩ := z_bd h
        refine zg_invV_i (av := [.inl v1, .inl (2 : Int32)]) (st := []) (n := 2) dd_206_67 ca_205 zw_1408 zw_1410 zv_65 zMs_0 zcl_12 rfl (mt_fm_walkOf e14) rfl ⟨by decide +kernel, by decide⟩ (Nat.le_of_ble_eq_true rfl) ?_
        obtain rfl := Option.some.inj h
        exact zg_iret dd_206_70 rfl
      · replace h := z_f h q12
        refine zg_aload_n dd_206_54 rfl (j := 0) rfl ?_
        refine zg_ldcw dd_206_55 zw_1427 ?_
        obtain ⟨r15, e16, h⟩ := z_bd h
        refine zg_invV_i (av := [.inl (-1000005 : Int32)]) (st := []) (n := 1) dd_206_58 ca_142 zw_1140 zw_1142 zv_31 zMs_0 zcl_12 rfl (mt_fm_finding e16) rfl ⟨by decide +kernel, by decide⟩ (Nat.le_of_ble_eq_true rfl) ?_
        refine zg_goto (tgt := 70) dd_206_61 (by decide) ?_
        obtain rfl := Option.some.inj h
        exact zg_iret dd_206_70 rfl
    · replace h := z_f h q11
      refine zg_iload_n dd_206_37 rfl (j := 3) rfl ?_
      refine zg_iload_n dd_206_38 rfl (j := 2) rfl ?_
      refine zg_icmp_eq (tgt := 50) dd_206_39 (by decide) (fun q17 => ?_) (fun q17 => ?_)
      · replace h := z_t h q17
        refine zg_iload_n dd_206_50 rfl (j := 3) rfl ?_
        refine zg_if_ge (tgt := 64) dd_206_51 (by decide) (fun q18 => ?_) (fun q18 => ?_)
        · replace h := z_t h q18
          refine zg_aload_n dd_206_64 rfl (j := 0) rfl ?_
          refine zg_iload_n dd_206_65 rfl (j := 1) rfl ?_
          refine zg_iconst dd_206_66 kI_2 ?_
          obtain ⟨r19, e20, h⟩ := z_bd h
          refine zg_invV_i (av := [.inl v1, .inl (2 : Int32)]) (st := []) (n := 2) dd_206_67 ca_205 zw_1408 zw_1410 zv_65 zMs_0 zcl_12 rfl (mt_fm_walkOf e20) rfl ⟨by decide +kernel, by decide⟩ (Nat.le_of_ble_eq_true rfl) ?_
          obtain rfl := Option.some.inj h
          exact zg_iret dd_206_70 rfl
        · replace h := z_f h q18
          refine zg_aload_n dd_206_54 rfl (j := 0) rfl ?_
          refine zg_ldcw dd_206_55 zw_1427 ?_
          obtain ⟨r21, e22, h⟩ := z_bd h
          refine zg_invV_i (av := [.inl (-1000005 : Int32)]) (st := []) (n := 1) dd_206_58 ca_142 zw_1140 zw_1142 zv_31 zMs_0 zcl_12 rfl (mt_fm_finding e22) rfl ⟨by decide +kernel, by decide⟩ (Nat.le_of_ble_eq_true rfl) ?_
          refine zg_goto (tgt := 70) dd_206_61 (by decide) ?_
          obtain rfl := Option.some.inj h
          exact zg_iret dd_206_70 rfl
      · replace h := z_f h q17
        refine zg_iload_n dd_206_42 rfl (j := 3) rfl ?_
        obtain ⟨r23, e24, h⟩ := z_bd h
        refine zg_invS_i (av := [.inl v3]) (st := []) (n := 1) dd_206_43 ca_207 zw_1424 zw_1425 (mt_fm_above e24) rfl ⟨by decide +kernel, by decide⟩ (Nat.le_of_ble_eq_true rfl) ?_
        refine zg_istore_n dd_206_46 rfl (Nat.le_of_ble_eq_true rfl) (lv' := [(3, .inl r23), (0, .inr (.inr (some 0))), (1, .inl v1), (2, .inl v2)]) rfl ?_
        refine zg_goto (tgt := 33) dd_206_47 (by decide) ?_
        refine zg_sub [1, 2, 3, 0] rfl ?_
        exact ih _ _ _ _ h
set_option maxRecDepth 20000 in
theorem mt_fm_as {I : zI} {a1 : Int32} {a2 : Int32} {res : (Int32 × zI)} (h : fm_as I a1 a2 = some res) : zM 3 ym_206 [.inr (.inr (some 0)), .inl a1, .inl a2] (zMs, zMr, I) (some (.inl res.1)) (zMs, zMr, res.2) 0 0 := by
  refine zM_of (by decide) (Nat.le_of_ble_eq_true rfl) (lv := [(0, .inr (.inr (some 0))), (1, .inl a1), (2, .inl a2)]) rfl ?_
  rw [fm_as] at h
  refine zg_aload_n dd_206_0 rfl (j := 0) rfl ?_
  refine zg_iload_n dd_206_1 rfl (j := 1) rfl ?_
  refine zg_iconst dd_206_2 kI_2 ?_
  obtain ⟨r1, e2, h⟩ := z_bd h
  refine zg_invV_i (av := [.inl a1, .inl (2 : Int32)]) (st := []) (n := 2) dd_206_3 ca_144 zw_1150 zw_1152 zv_32 zMs_0 zcl_12 rfl (mt_fm_is e2) rfl ⟨by decide +kernel, by decide⟩ (Nat.le_of_ble_eq_true rfl) ?_
  refine zg_if_eq (tgt := 19) dd_206_6 (by decide) (fun q3 => ?_) (fun q3 => ?_)
  · replace h := z_t h q3
    refine zg_aload_n dd_206_19 rfl (j := 0) rfl ?_
    refine zg_ldc dd_206_20 zw_1139 ?_
    obtain ⟨r4, e5, h⟩ := z_bd h
    refine zg_invV_i (av := [.inl (-1000001 : Int32)]) (st := []) (n := 1) dd_206_22 ca_142 zw_1140 zw_1142 zv_31 zMs_0 zcl_12 rfl (mt_fm_finding e5) rfl ⟨by decide +kernel, by decide⟩ (Nat.le_of_ble_eq_true rfl) ?_
    obtain rfl := Option.some.inj h
    exact zg_iret dd_206_25 rfl
  · replace h := z_f h q3
    refine zg_iload_n dd_206_9 rfl (j := 2) rfl ?_
    refine zg_iconst dd_206_10 kI_0 ?_
    refine zg_bipush dd_206_11 kB_6 ?_
    obtain ⟨r6, e7, h⟩ := z_bd h
    refine zg_invS_i (av := [.inl a2, .inl (0 : Int32), .inl (6 : Int32)]) (st := []) (n := 3) dd_206_13 ca_141 zw_1136 zw_1137 (mt_fm_within e7) rfl ⟨by decide +kernel, by decide⟩ (Nat.le_of_ble_eq_true rfl) ?_
    refine zg_if_ne (tgt := 26) dd_206_16 (by decide) (fun q8 => ?_) (fun q8 => ?_)
    · replace h := z_f h q8
      refine zg_aload_n dd_206_26 rfl (j := 0) rfl ?_
      refine zg_iload_n dd_206_27 rfl (j := 1) rfl ?_
      refine zg_iconst dd_206_28 kI_0 ?_
      obtain ⟨r9, e10, h⟩ := z_bd h
      refine zg_invV_i (av := [.inl a1, .inl (0 : Int32)]) (st := []) (n := 2) dd_206_29 ca_205 zw_1408 zw_1410 zv_65 zMs_0 zcl_12 rfl (mt_fm_walkOf e10) rfl ⟨by decide +kernel, by decide⟩ (Nat.le_of_ble_eq_true rfl) ?_
      refine zg_istore_n dd_206_32 rfl (Nat.le_of_ble_eq_true rfl) (lv' := [(3, .inl r9), (0, .inr (.inr (some 0))), (1, .inl a1), (2, .inl a2)]) rfl ?_
      refine zg_sub [1, 2, 3, 0] rfl ?_
      refine lt_fm_as_L33  _ _ _ _ _ h
    · replace h := z_t h q8
      refine zg_aload_n dd_206_19 rfl (j := 0) rfl ?_
      refine zg_ldc dd_206_20 zw_1139 ?_
      obtain ⟨r25, e26, h⟩ := z_bd h
      refine zg_invV_i (av := [.inl (-1000001 : Int32)]) (st := []) (n := 1) dd_206_22 ca_142 zw_1140 zw_1142 zv_31 zMs_0 zcl_12 rfl (mt_fm_finding e26) rfl ⟨by decide +kernel, by decide⟩ (Nat.le_of_ble_eq_true rfl) ?_
      obtain rfl := Option.some.inj h
      exact zg_iret dd_206_25 rfl
/-! TurnedLandModel.set(0, None, None, None) -/
def fm_set_J23 (I : zI) (v1 : Int32) (v2 : Int32) (v3 : Int32) : Option (Int32 × zI) :=
  if v2 = (3 : Int32) then
    (fm_within I v3 (-1 : Int32) (9999 : Int32)).bind fun r12 =>
    if r12 = 0 then
      (fm_finding I (-1000001 : Int32)).bind fun r16 =>
      some (r16.1, r16.2)
    else
      (fm_become I (((66 : Int32) + ((12 : Int32) * v1)) + v2) v3).bind fun r19 =>
      some (r19.1, r19.2)
  else
    (fm_finding I (-1000001 : Int32)).bind fun r10 =>
    some (r10.1, r10.2)
def fm_set (I : zI) (a1 : Int32) (a2 : Int32) (a3 : Int32) : Option (Int32 × zI) :=
  (fm_is I a1 (2 : Int32)).bind fun r1 =>
  if r1 = 0 then
    (fm_finding I (-1000001 : Int32)).bind fun r5 =>
    some (r5.1, r5.2)
  else
    if a2 = 0 then
      (fm_within I a3 (0 : Int32) (6 : Int32)).bind fun r21 =>
      if r21 = 0 then
        fm_set_J23 I a1 a2 a3
      else
        (fm_become I (((66 : Int32) + ((12 : Int32) * a1)) + a2) a3).bind fun r25 =>
        some (r25.1, r25.2)
    else
      fm_set_J23 I a1 a2 a3
set_option maxRecDepth 20000 in
theorem jt_fm_set_J23 {res : (Int32 × zI)} {I : zI} {v1 : Int32} {v2 : Int32} {v3 : Int32} (h : fm_set_J23 I v1 v2 v3 = some res) : zG 3 ym_208 0 0 (some (.inl res.1)) (zMs, zMr, res.2) zMs.length 23 [(0, .inr (.inr (some 0))), (1, .inl v1), (2, .inl v2), (3, .inl v3)] [] (zMs, zMr, I) 0 0 := by
  rw [fm_set_J23] at h
  refine zg_iload_n dd_208_23 rfl (j := 2) rfl ?_
  refine zg_iconst dd_208_24 kI_3 ?_
  refine zg_icmp_ne (tgt := 43) dd_208_25 (by decide) (fun q8 => ?_) (fun q8 => ?_)
  · replace h := z_f h q8
    refine zg_iconst dd_208_43 kI_0 ?_
    refine zg_istore dd_208_44 (Nat.le_of_ble_eq_true rfl) (lv' := [(4, .inl (0 : Int32)), (0, .inr (.inr (some 0))), (1, .inl v1), (2, .inl v2), (3, .inl v3)]) rfl ?_
    refine zg_iload dd_208_46 (j := 0) rfl ?_
    refine zg_if_eq (tgt := 68) dd_208_48 (by decide) (fun _ => ?_) (fun q9 => absurd q9 (by decide))
    refine zg_aload_n dd_208_68 rfl (j := 1) rfl ?_
    refine zg_ldc dd_208_69 zw_1139 ?_
    obtain ⟨r10, e11, h⟩ := z_bd h
    refine zg_invV_i (av := [.inl (-1000001 : Int32)]) (st := []) (n := 1) dd_208_71 ca_142 zw_1140 zw_1142 zv_31 zMs_0 zcl_12 rfl (mt_fm_finding e11) rfl ⟨by decide +kernel, by decide⟩ (Nat.le_of_ble_eq_true rfl) ?_
    obtain rfl := Option.some.inj h
    exact zg_iret dd_208_74 rfl
  · replace h := z_t h q8
    refine zg_iload_n dd_208_28 rfl (j := 3) rfl ?_
    refine zg_iconst dd_208_29 kI_m1 ?_
    refine zg_sipush dd_208_30 kS_9999 ?_
    obtain ⟨r12, e13, h⟩ := z_bd h
    refine zg_invS_i (av := [.inl v3, .inl (-1 : Int32), .inl (9999 : Int32)]) (st := []) (n := 3) dd_208_33 ca_141 zw_1136 zw_1137 (mt_fm_within e13) rfl ⟨by decide +kernel, by decide⟩ (Nat.le_of_ble_eq_true rfl) ?_
    refine zg_if_eq (tgt := 43) dd_208_36 (by decide) (fun q14 => ?_) (fun q14 => ?_)
    · replace h := z_t h q14
      refine zg_iconst dd_208_43 kI_0 ?_
      refine zg_istore dd_208_44 (Nat.le_of_ble_eq_true rfl) (lv' := [(4, .inl (0 : Int32)), (0, .inr (.inr (some 0))), (1, .inl v1), (2, .inl v2), (3, .inl v3)]) rfl ?_
      refine zg_iload dd_208_46 (j := 0) rfl ?_
      refine zg_if_eq (tgt := 68) dd_208_48 (by decide) (fun _ => ?_) (fun q15 => absurd q15 (by decide))
      refine zg_aload_n dd_208_68 rfl (j := 1) rfl ?_
      refine zg_ldc dd_208_69 zw_1139 ?_
      obtain ⟨r16, e17, h⟩ := z_bd h
      refine zg_invV_i (av := [.inl (-1000001 : Int32)]) (st := []) (n := 1) dd_208_71 ca_142 zw_1140 zw_1142 zv_31 zMs_0 zcl_12 rfl (mt_fm_finding e17) rfl ⟨by decide +kernel, by decide⟩ (Nat.le_of_ble_eq_true rfl) ?_
      obtain rfl := Option.some.inj h
      exact zg_iret dd_208_74 rfl
    · replace h := z_f h q14
      refine zg_iconst dd_208_39 kI_1 ?_
      refine zg_goto (tgt := 44) dd_208_40 (by decide) ?_
      refine zg_istore dd_208_44 (Nat.le_of_ble_eq_true rfl) (lv' := [(4, .inl (1 : Int32)), (0, .inr (.inr (some 0))), (1, .inl v1), (2, .inl v2), (3, .inl v3)]) rfl ?_
      refine zg_iload dd_208_46 (j := 0) rfl ?_
      refine zg_if_eq (tgt := 68) dd_208_48 (by decide) (fun q18 => absurd q18 (by decide)) (fun _ => ?_)
      refine zg_aload_n dd_208_51 rfl (j := 1) rfl ?_
      refine zg_bipush dd_208_52 kB_66 ?_
      refine zg_bipush dd_208_54 kB_12 ?_
      refine zg_iload_n dd_208_56 rfl (j := 2) rfl ?_
      refine zg_imul dd_208_57 ?_
      refine zg_iadd dd_208_58 ?_
      refine zg_iload_n dd_208_59 rfl (j := 3) rfl ?_
      refine zg_iadd dd_208_60 ?_
      refine zg_iload_n dd_208_61 rfl (j := 4) rfl ?_
      obtain ⟨r19, e20, h⟩ := z_bd h
      refine zg_invV_i (av := [.inl (((66 : Int32) + ((12 : Int32) * v1)) + v2), .inl v3]) (st := []) (n := 2) dd_208_62 ca_145 zw_1154 zw_1156 zv_33 zMs_0 zcl_12 rfl (mt_fm_become e20) rfl ⟨by decide +kernel, by decide⟩ (Nat.le_of_ble_eq_true rfl) ?_
      refine zg_goto (tgt := 74) dd_208_65 (by decide) ?_
      obtain rfl := Option.some.inj h
      exact zg_iret dd_208_74 rfl
set_option maxRecDepth 20000 in
theorem mt_fm_set {I : zI} {a1 : Int32} {a2 : Int32} {a3 : Int32} {res : (Int32 × zI)} (h : fm_set I a1 a2 a3 = some res) : zM 3 ym_208 [.inr (.inr (some 0)), .inl a1, .inl a2, .inl a3] (zMs, zMr, I) (some (.inl res.1)) (zMs, zMr, res.2) 0 0 := by
  refine zM_of (by decide) (Nat.le_of_ble_eq_true rfl) (lv := [(0, .inr (.inr (some 0))), (1, .inl a1), (2, .inl a2), (3, .inl a3)]) rfl ?_
  rw [fm_set] at h
  refine zg_aload_n dd_208_0 rfl (j := 0) rfl ?_
  refine zg_iload_n dd_208_1 rfl (j := 1) rfl ?_
  refine zg_iconst dd_208_2 kI_2 ?_
  obtain ⟨r1, e2, h⟩ := z_bd h
  refine zg_invV_i (av := [.inl a1, .inl (2 : Int32)]) (st := []) (n := 2) dd_208_3 ca_144 zw_1150 zw_1152 zv_32 zMs_0 zcl_12 rfl (mt_fm_is e2) rfl ⟨by decide +kernel, by decide⟩ (Nat.le_of_ble_eq_true rfl) ?_
  refine zg_if_eq (tgt := 43) dd_208_6 (by decide) (fun q3 => ?_) (fun q3 => ?_)
  · replace h := z_t h q3
    refine zg_iconst dd_208_43 kI_0 ?_
    refine zg_istore dd_208_44 (Nat.le_of_ble_eq_true rfl) (lv' := [(4, .inl (0 : Int32)), (0, .inr (.inr (some 0))), (1, .inl a1), (2, .inl a2), (3, .inl a3)]) rfl ?_
    refine zg_iload dd_208_46 (j := 0) rfl ?_
    refine zg_if_eq (tgt := 68) dd_208_48 (by decide) (fun _ => ?_) (fun q4 => absurd q4 (by decide))
    refine zg_aload_n dd_208_68 rfl (j := 1) rfl ?_
    refine zg_ldc dd_208_69 zw_1139 ?_
    obtain ⟨r5, e6, h⟩ := z_bd h
    refine zg_invV_i (av := [.inl (-1000001 : Int32)]) (st := []) (n := 1) dd_208_71 ca_142 zw_1140 zw_1142 zv_31 zMs_0 zcl_12 rfl (mt_fm_finding e6) rfl ⟨by decide +kernel, by decide⟩ (Nat.le_of_ble_eq_true rfl) ?_
    obtain rfl := Option.some.inj h
    exact zg_iret dd_208_74 rfl
  · replace h := z_f h q3
    refine zg_iload_n dd_208_9 rfl (j := 2) rfl ?_
    refine zg_if_ne (tgt := 23) dd_208_10 (by decide) (fun q7 => ?_) (fun q7 => ?_)
    · replace h := z_f h q7
      refine zg_sub [0, 1, 2, 3] rfl ?_
      exact jt_fm_set_J23 h
    · replace h := z_t h q7
      refine zg_iload_n dd_208_13 rfl (j := 3) rfl ?_
      refine zg_iconst dd_208_14 kI_0 ?_
      refine zg_bipush dd_208_15 kB_6 ?_
      obtain ⟨r21, e22, h⟩ := z_bd h
      refine zg_invS_i (av := [.inl a3, .inl (0 : Int32), .inl (6 : Int32)]) (st := []) (n := 3) dd_208_17 ca_141 zw_1136 zw_1137 (mt_fm_within e22) rfl ⟨by decide +kernel, by decide⟩ (Nat.le_of_ble_eq_true rfl) ?_
      refine zg_if_ne (tgt := 39) dd_208_20 (by decide) (fun q23 => ?_) (fun q23 => ?_)
      · replace h := z_f h q23
        refine zg_iconst dd_208_39 kI_1 ?_
        refine zg_goto (tgt := 44) dd_208_40 (by decide) ?_
        refine zg_istore dd_208_44 (Nat.le_of_ble_eq_true rfl) (lv' := [(4, .inl (1 : Int32)), (0, .inr (.inr (some 0))), (1, .inl a1), (2, .inl a2), (3, .inl a3)]) rfl ?_
        refine zg_iload dd_208_46 (j := 0) rfl ?_
        refine zg_if_eq (tgt := 68) dd_208_48 (by decide) (fun q24 => absurd q24 (by decide)) (fun _ => ?_)
        refine zg_aload_n dd_208_51 rfl (j := 1) rfl ?_
        refine zg_bipush dd_208_52 kB_66 ?_
        refine zg_bipush dd_208_54 kB_12 ?_
        refine zg_iload_n dd_208_56 rfl (j := 2) rfl ?_
        refine zg_imul dd_208_57 ?_
        refine zg_iadd dd_208_58 ?_
        refine zg_iload_n dd_208_59 rfl (j := 3) rfl ?_
        refine zg_iadd dd_208_60 ?_
        refine zg_iload_n dd_208_61 rfl (j := 4) rfl ?_
        obtain ⟨r25, e26, h⟩ := z_bd h
        refine zg_invV_i (av := [.inl (((66 : Int32) + ((12 : Int32) * a1)) + a2), .inl a3]) (st := []) (n := 2) dd_208_62 ca_145 zw_1154 zw_1156 zv_33 zMs_0 zcl_12 rfl (mt_fm_become e26) rfl ⟨by decide +kernel, by decide⟩ (Nat.le_of_ble_eq_true rfl) ?_
        refine zg_goto (tgt := 74) dd_208_65 (by decide) ?_
        obtain rfl := Option.some.inj h
        exact zg_iret dd_208_74 rfl
      · replace h := z_t h q23
        refine zg_sub [0, 1, 2, 3] rfl ?_
        exact jt_fm_set_J23 h
/-! TurnedLandModel.gone(0, None, None, None) -/
def fm_gone (I : zI) (a1 : Int32) (a2 : Int32) (a3 : Int32) : Option (Int32 × zI) :=
  (fm_is I a1 (2 : Int32)).bind fun r1 =>
  if r1 = 0 then
    (fm_finding I (-1000001 : Int32)).bind fun r4 =>
    some (r4.1, r4.2)
  else
    (fm_within I a2 (0 : Int32) (1 : Int32)).bind fun r6 =>
    if r6 = 0 then
      (fm_finding I (-1000001 : Int32)).bind fun r9 =>
      some (r9.1, r9.2)
    else
      (fm_within I a3 (0 : Int32) (2 : Int32)).bind fun r11 =>
      if r11 = 0 then
        (fm_finding I (-1000001 : Int32)).bind fun r21 =>
        some (r21.1, r21.2)
      else
        (fm_goes I a1 a2).bind fun r14 =>
        if r14.1 = 0 then
          (fm_finding r14.2 (-1000003 : Int32)).bind fun r19 =>
          some (r19.1, r19.2)
        else
          if a3 = 0 then
            some ((r14.2 0 17), r14.2)
          else
            if a3 = (1 : Int32) then
              some ((r14.2 0 18), r14.2)
            else
              some ((r14.2 0 19), r14.2)
set_option maxRecDepth 20000 in
theorem mt_fm_gone {I : zI} {a1 : Int32} {a2 : Int32} {a3 : Int32} {res : (Int32 × zI)} (h : fm_gone I a1 a2 a3 = some res) : zM 6 ym_209 [.inr (.inr (some 0)), .inl a1, .inl a2, .inl a3] (zMs, zMr, I) (some (.inl res.1)) (zMs, zMr, res.2) 0 0 := by
  refine zM_of (by decide) (Nat.le_of_ble_eq_true rfl) (lv := [(0, .inr (.inr (some 0))), (1, .inl a1), (2, .inl a2), (3, .inl a3)]) rfl ?_
  rw [fm_gone] at h
  refine zg_aload_n dd_209_0 rfl (j := 0) rfl ?_
  refine zg_iload_n dd_209_1 rfl (j := 1) rfl ?_
  refine zg_iconst dd_209_2 kI_2 ?_
  obtain ⟨r1, e2, h⟩ := z_bd h
  refine zg_invV_i (av := [.inl a1, .inl (2 : Int32)]) (st := []) (n := 2) dd_209_3 ca_144 zw_1150 zw_1152 zv_32 zMs_0 zcl_12 rfl (mt_fm_is e2) rfl ⟨by decide +kernel, by decide⟩ (Nat.le_of_ble_eq_true rfl) ?_
  refine zg_if_eq (tgt := 27) dd_209_6 (by decide) (fun q3 => ?_) (fun q3 => ?_)
  · replace h := z_t h q3
    refine zg_aload_n dd_209_27 rfl (j := 0) rfl ?_
    refine zg_ldc dd_209_28 zw_1139 ?_
    obtain ⟨r4, e5, h⟩ := z_bd h
    refine zg_invV_i (av := [.inl (-1000001 : Int32)]) (st := []) (n := 1) dd_209_30 ca_142 zw_1140 zw_1142 zv_31 zMs_0 zcl_12 rfl (mt_fm_finding e5) rfl ⟨by decide +kernel, by decide⟩ (Nat.le_of_ble_eq_true rfl) ?_
    obtain rfl := Option.some.inj h
    exact zg_iret dd_209_33 rfl
  · replace h := z_f h q3
    refine zg_iload_n dd_209_9 rfl (j := 2) rfl ?_
    refine zg_iconst dd_209_10 kI_0 ?_
    refine zg_iconst dd_209_11 kI_1 ?_
    obtain ⟨r6, e7, h⟩ := z_bd h
    refine zg_invS_i (av := [.inl a2, .inl (0 : Int32), .inl (1 : Int32)]) (st := []) (n := 3) dd_209_12 ca_141 zw_1136 zw_1137 (mt_fm_within e7) rfl ⟨by decide +kernel, by decide⟩ (Nat.le_of_ble_eq_true rfl) ?_
    refine zg_if_eq (tgt := 27) dd_209_15 (by decide) (fun q8 => ?_) (fun q8 => ?_)
    · replace h := z_t h q8
      refine zg_aload_n dd_209_27 rfl (j := 0) rfl ?_
      refine zg_ldc dd_209_28 zw_1139 ?_
      obtain ⟨r9, e10, h⟩ := z_bd h
      refine zg_invV_i (av := [.inl (-1000001 : Int32)]) (st := []) (n := 1) dd_209_30 ca_142 zw_1140 zw_1142 zv_31 zMs_0 zcl_12 rfl (mt_fm_finding e10) rfl ⟨by decide +kernel, by decide⟩ (Nat.le_of_ble_eq_true rfl) ?_
      obtain rfl := Option.some.inj h
      exact zg_iret dd_209_33 rfl
    · replace h := z_f h q8
      refine zg_iload_n dd_209_18 rfl (j := 3) rfl ?_
      refine zg_iconst dd_209_19 kI_0 ?_
      refine zg_iconst dd_209_20 kI_2 ?_
      obtain ⟨r11, e12, h⟩ := z_bd h
      refine zg_invS_i (av := [.inl a3, .inl (0 : Int32), .inl (2 : Int32)]) (st := []) (n := 3) dd_209_21 ca_141 zw_1136 zw_1137 (mt_fm_within e12) rfl ⟨by decide +kernel, by decide⟩ (Nat.le_of_ble_eq_true rfl) ?_
      refine zg_if_ne (tgt := 34) dd_209_24 (by decide) (fun q13 => ?_) (fun q13 => ?_)
      · replace h := z_f h q13
        refine zg_aload_n dd_209_34 rfl (j := 0) rfl ?_
        refine zg_iload_n dd_209_35 rfl (j := 1) rfl ?_
        refine zg_iload_n dd_209_36 rfl (j := 2) rfl ?_
        obtain ⟨r14, e15, h⟩ := z_bd h
        refine zg_invV_i (av := [.inl a1, .inl a2]) (st := []) (n := 2) dd_209_37 ca_204 zw_1416 zw_1418 zv_67 zMs_0 zcl_12 rfl (mt_fm_goes e15) rfl ⟨by decide +kernel, by decide⟩ (Nat.le_of_ble_eq_true rfl) ?_
        refine zg_if_ne (tgt := 50) dd_209_40 (by decide) (fun q16 => ?_) (fun q16 => ?_)
        · replace h := z_f h q16
          refine zg_iload_n dd_209_50 rfl (j := 3) rfl ?_
          refine zg_if_ne (tgt := 61) dd_209_51 (by decide) (fun q17 => ?_) (fun q17 => ?_)
          · replace h := z_f h q17
            refine zg_iload_n dd_209_61 rfl (j := 3) rfl ?_
            refine zg_iconst dd_209_62 kI_1 ?_
            refine zg_icmp_ne (tgt := 73) dd_209_63 (by decide) (fun q18 => ?_) (fun q18 => ?_)
            · replace h := z_f h q18
              refine zg_aload_n dd_209_73 rfl (j := 0) rfl ?_
              refine zg_getI (x := (r14.2 0 19)) dd_209_74 zl_M_245 zMs_0 rfl rfl ?_
              obtain rfl := Option.some.inj h
              exact zg_iret dd_209_77 rfl
            · replace h := z_t h q18
              refine zg_aload_n dd_209_66 rfl (j := 0) rfl ?_
              refine zg_getI (x := (r14.2 0 18)) dd_209_67 zl_M_242 zMs_0 rfl rfl ?_
              refine zg_goto (tgt := 77) dd_209_70 (by decide) ?_
              obtain rfl := Option.some.inj h
              exact zg_iret dd_209_77 rfl
          · replace h := z_t h q17
            refine zg_aload_n dd_209_54 rfl (j := 0) rfl ?_
            refine zg_getI (x := (r14.2 0 17)) dd_209_55 zl_M_239 zMs_0 rfl rfl ?_
            refine zg_goto (tgt := 77) dd_209_58 (by decide) ?_
            obtain rfl := Option.some.inj h
            exact zg_iret dd_209_77 rfl
        · replace h := z_t h q16
          refine zg_aload_n dd_209_43 rfl (j := 0) rfl ?_
          refine zg_ldc dd_209_44 zw_1178 ?_
          obtain ⟨r19, e20, h⟩ := z_bd h
          refine zg_invV_i (av := [.inl (-1000003 : Int32)]) (st := []) (n := 1) dd_209_46 ca_142 zw_1140 zw_1142 zv_31 zMs_0 zcl_12 rfl (mt_fm_finding e20) rfl ⟨by decide +kernel, by decide⟩ (Nat.le_of_ble_eq_true rfl) ?_
          obtain rfl := Option.some.inj h
          exact zg_iret dd_209_49 rfl
      · replace h := z_t h q13
        refine zg_aload_n dd_209_27 rfl (j := 0) rfl ?_
        refine zg_ldc dd_209_28 zw_1139 ?_
        obtain ⟨r21, e22, h⟩ := z_bd h
        refine zg_invV_i (av := [.inl (-1000001 : Int32)]) (st := []) (n := 1) dd_209_30 ca_142 zw_1140 zw_1142 zv_31 zMs_0 zcl_12 rfl (mt_fm_finding e22) rfl ⟨by decide +kernel, by decide⟩ (Nat.le_of_ble_eq_true rfl) ?_
        obtain rfl := Option.some.inj h
        exact zg_iret dd_209_33 rfl
/-! TurnedLandModel.stops(0, None) -/
def fm_stops (I : zI) (a1 : Int32) : Option (Int32 × zI) :=
  (fm_is I a1 (2 : Int32)).bind fun r1 =>
  if r1 = 0 then
    (fm_finding I (-1000001 : Int32)).bind fun r9 =>
    some (r9.1, r9.2)
  else
    (fm_goes I a1 (0 : Int32)).bind fun r4 =>
    if r4.1 = 0 then
      some ((r4.2 0 21), r4.2)
    else
      (fm_finding r4.2 (-1000002 : Int32)).bind fun r7 =>
      some (r7.1, r7.2)
set_option maxRecDepth 20000 in
theorem mt_fm_stops {I : zI} {a1 : Int32} {res : (Int32 × zI)} (h : fm_stops I a1 = some res) : zM 6 ym_210 [.inr (.inr (some 0)), .inl a1] (zMs, zMr, I) (some (.inl res.1)) (zMs, zMr, res.2) 0 0 := by
  refine zM_of (by decide) (Nat.le_of_ble_eq_true rfl) (lv := [(0, .inr (.inr (some 0))), (1, .inl a1)]) rfl ?_
  rw [fm_stops] at h
  refine zg_aload_n dd_210_0 rfl (j := 0) rfl ?_
  refine zg_iload_n dd_210_1 rfl (j := 1) rfl ?_
  refine zg_iconst dd_210_2 kI_2 ?_
  obtain ⟨r1, e2, h⟩ := z_bd h
  refine zg_invV_i (av := [.inl a1, .inl (2 : Int32)]) (st := []) (n := 2) dd_210_3 ca_144 zw_1150 zw_1152 zv_32 zMs_0 zcl_12 rfl (mt_fm_is e2) rfl ⟨by decide +kernel, by decide⟩ (Nat.le_of_ble_eq_true rfl) ?_
  refine zg_if_ne (tgt := 16) dd_210_6 (by decide) (fun q3 => ?_) (fun q3 => ?_)
  · replace h := z_f h q3
    refine zg_aload_n dd_210_16 rfl (j := 0) rfl ?_
    refine zg_iload_n dd_210_17 rfl (j := 1) rfl ?_
    refine zg_iconst dd_210_18 kI_0 ?_
    obtain ⟨r4, e5, h⟩ := z_bd h
    refine zg_invV_i (av := [.inl a1, .inl (0 : Int32)]) (st := []) (n := 2) dd_210_19 ca_204 zw_1416 zw_1418 zv_67 zMs_0 zcl_12 rfl (mt_fm_goes e5) rfl ⟨by decide +kernel, by decide⟩ (Nat.le_of_ble_eq_true rfl) ?_
    refine zg_if_eq (tgt := 34) dd_210_22 (by decide) (fun q6 => ?_) (fun q6 => ?_)
    · replace h := z_t h q6
      refine zg_aload_n dd_210_34 rfl (j := 0) rfl ?_
      refine zg_getI (x := (r4.2 0 21)) dd_210_35 zl_M_251 zMs_0 rfl rfl ?_
      obtain rfl := Option.some.inj h
      exact zg_iret dd_210_38 rfl
    · replace h := z_f h q6
      refine zg_aload_n dd_210_25 rfl (j := 0) rfl ?_
      refine zg_ldc dd_210_26 zw_1199 ?_
      obtain ⟨r7, e8, h⟩ := z_bd h
      refine zg_invV_i (av := [.inl (-1000002 : Int32)]) (st := []) (n := 1) dd_210_28 ca_142 zw_1140 zw_1142 zv_31 zMs_0 zcl_12 rfl (mt_fm_finding e8) rfl ⟨by decide +kernel, by decide⟩ (Nat.le_of_ble_eq_true rfl) ?_
      refine zg_goto (tgt := 38) dd_210_31 (by decide) ?_
      obtain rfl := Option.some.inj h
      exact zg_iret dd_210_38 rfl
  · replace h := z_t h q3
    refine zg_aload_n dd_210_9 rfl (j := 0) rfl ?_
    refine zg_ldc dd_210_10 zw_1139 ?_
    obtain ⟨r9, e10, h⟩ := z_bd h
    refine zg_invV_i (av := [.inl (-1000001 : Int32)]) (st := []) (n := 1) dd_210_12 ca_142 zw_1140 zw_1142 zv_31 zMs_0 zcl_12 rfl (mt_fm_finding e10) rfl ⟨by decide +kernel, by decide⟩ (Nat.le_of_ble_eq_true rfl) ?_
    obtain rfl := Option.some.inj h
    exact zg_iret dd_210_15 rfl
/-! TurnedLandModel.person(0, None) -/
def fm_person (I : zI) (a1 : Int32) : Option (Int32 × zI) :=
  (fm_isPlace I a1).bind fun r1 =>
  if r1 = 0 then
    (fm_finding I (-1000001 : Int32)).bind fun r9 =>
    some (r9.1, r9.2)
  else
    if (I 1 (3 : Int32).toNatClampNeg) = (6 : Int32) then
      (fm_finding I (-1000004 : Int32)).bind fun r7 =>
      some (r7.1, r7.2)
    else
      z_guard (zb ((186 : Int32) + ((2 : Int32) * (I 1 (3 : Int32).toNatClampNeg))) 448) <|
      z_guard (zb (((186 : Int32) + ((2 : Int32) * (I 1 (3 : Int32).toNatClampNeg))) + (1 : Int32)) 448) <|
      some ((I 1 (3 : Int32).toNatClampNeg), (zup (zup (zup I 1 ((186 : Int32) + ((2 : Int32) * (I 1 (3 : Int32).toNatClampNeg))).toNatClampNeg a1) 1 (((186 : Int32) + ((2 : Int32) * (I 1 (3 : Int32).toNatClampNeg))) + (1 : Int32)).toNatClampNeg (0 : Int32)) 1 (3 : Int32).toNatClampNeg (((zup (zup I 1 ((186 : Int32) + ((2 : Int32) * (I 1 (3 : Int32).toNatClampNeg))).toNatClampNeg a1) 1 (((186 : Int32) + ((2 : Int32) * (I 1 (3 : Int32).toNatClampNeg))) + (1 : Int32)).toNatClampNeg (0 : Int32)) 1 (3 : Int32).toNatClampNeg) + (1 : Int32))))
set_option maxRecDepth 20000 in
theorem mt_fm_person {I : zI} {a1 : Int32} {res : (Int32 × zI)} (h : fm_person I a1 = some res) : zM 3 ym_211 [.inr (.inr (some 0)), .inl a1] (zMs, zMr, I) (some (.inl res.1)) (zMs, zMr, res.2) 0 0 := by
  refine zM_of (by decide) (Nat.le_of_ble_eq_true rfl) (lv := [(0, .inr (.inr (some 0))), (1, .inl a1)]) rfl ?_
  rw [fm_person] at h
  refine zg_aload_n dd_211_0 rfl (j := 0) rfl ?_
  refine zg_iload_n dd_211_1 rfl (j := 1) rfl ?_
  obtain ⟨r1, e2, h⟩ := z_bd h
  refine zg_invV_i (av := [.inl a1]) (st := []) (n := 1) dd_211_2 ca_190 zw_1357 zw_1359 zv_58 zMs_0 zcl_12 rfl (mt_fm_isPlace e2) rfl ⟨by decide +kernel, by decide⟩ (Nat.le_of_ble_eq_true rfl) ?_
  refine zg_if_ne (tgt := 15) dd_211_5 (by decide) (fun q3 => ?_) (fun q3 => ?_)
  · replace h := z_f h q3
    refine zg_aload_n dd_211_15 rfl (j := 0) rfl ?_
    refine zg_getR dd_211_16 zl_M_9 zMs_0 rfl zMr_0_0 ?_
    refine zg_iconst dd_211_19 kI_3 ?_
    refine zg_iald (w := (I 1 (3 : Int32).toNatClampNeg)) dd_211_20 zMs_1 (by decide) rfl ?_
    refine zg_istore_n dd_211_21 rfl (Nat.le_of_ble_eq_true rfl) (lv' := [(2, .inl (I 1 (3 : Int32).toNatClampNeg)), (0, .inr (.inr (some 0))), (1, .inl a1)]) rfl ?_
    refine zg_iload_n dd_211_22 rfl (j := 0) rfl ?_
    refine zg_bipush dd_211_23 kB_6 ?_
    refine zg_icmp_ne (tgt := 35) dd_211_25 (by decide) (fun q4 => ?_) (fun q4 => ?_)
    · replace h := z_f h q4
      refine zg_aload_n dd_211_35 rfl (j := 1) rfl ?_
      refine zg_getR dd_211_36 zl_M_9 zMs_0 rfl zMr_0_0 ?_
      refine zg_sipush dd_211_39 kS_186 ?_
      refine zg_iconst dd_211_42 kI_2 ?_
      refine zg_iload_n dd_211_43 rfl (j := 0) rfl ?_
      refine zg_imul dd_211_44 ?_
      refine zg_iadd dd_211_45 ?_
      refine zg_iload_n dd_211_46 rfl (j := 2) rfl ?_
      obtain ⟨g5, h⟩ := z_gd h
      refine zg_iast dd_211_47 zMs_1 g5 ?_
      refine zg_aload_n dd_211_48 rfl (j := 1) rfl ?_
      refine zg_getR dd_211_49 zl_M_9 zMs_0 rfl zMr_0_0 ?_
      refine zg_sipush dd_211_52 kS_186 ?_
      refine zg_iconst dd_211_55 kI_2 ?_
      refine zg_iload_n dd_211_56 rfl (j := 0) rfl ?_
      refine zg_imul dd_211_57 ?_
      refine zg_iadd dd_211_58 ?_
      refine zg_iconst dd_211_59 kI_1 ?_
      refine zg_iadd dd_211_60 ?_
      refine zg_iconst dd_211_61 kI_0 ?_
      obtain ⟨g6, h⟩ := z_gd h
      refine zg_iast dd_211_62 zMs_1 g6 ?_
      refine zg_aload_n dd_211_63 rfl (j := 1) rfl ?_
      refine zg_getR dd_211_64 zl_M_9 zMs_0 rfl zMr_0_0 ?_
      refine zg_iconst dd_211_67 kI_3 ?_
      refine zg_dup2 dd_211_68 rfl rfl ?_
      refine zg_iald (w := ((zup (zup I 1 ((186 : Int32) + ((2 : Int32) * (I 1 (3 : Int32).toNatClampNeg))).toNatClampNeg a1) 1 (((186 : Int32) + ((2 : Int32) * (I 1 (3 : Int32).toNatClampNeg))) + (1 : Int32)).toNatClampNeg (0 : Int32)) 1 (3 : Int32).toNatClampNeg)) dd_211_69 zMs_1 (by decide) rfl ?_
      refine zg_iconst dd_211_70 kI_1 ?_
      refine zg_iadd dd_211_71 ?_
      refine zg_iast dd_211_72 zMs_1 (by decide) ?_
      refine zg_iload_n dd_211_73 rfl (j := 0) rfl ?_
      obtain rfl := Option.some.inj h
      exact zg_iret dd_211_74 rfl
    · replace h := z_t h q4
      refine zg_aload_n dd_211_28 rfl (j := 1) rfl ?_
      refine zg_ldc dd_211_29 zw_1145 ?_
      obtain ⟨r7, e8, h⟩ := z_bd h
      refine zg_invV_i (av := [.inl (-1000004 : Int32)]) (st := []) (n := 1) dd_211_31 ca_142 zw_1140 zw_1142 zv_31 zMs_0 zcl_12 rfl (mt_fm_finding e8) rfl ⟨by decide +kernel, by decide⟩ (Nat.le_of_ble_eq_true rfl) ?_
      obtain rfl := Option.some.inj h
      exact zg_iret dd_211_34 rfl
  · replace h := z_t h q3
    refine zg_aload_n dd_211_8 rfl (j := 0) rfl ?_
    refine zg_ldc dd_211_9 zw_1139 ?_
    obtain ⟨r9, e10, h⟩ := z_bd h
    refine zg_invV_i (av := [.inl (-1000001 : Int32)]) (st := []) (n := 1) dd_211_11 ca_142 zw_1140 zw_1142 zv_31 zMs_0 zcl_12 rfl (mt_fm_finding e10) rfl ⟨by decide +kernel, by decide⟩ (Nat.le_of_ble_eq_true rfl) ?_
    obtain rfl := Option.some.inj h
    exact zg_iret dd_211_14 rfl
/-! TurnedLandModel.personIs(0, None, None) -/
def fm_personIs (I : zI) (a1 : Int32) (a2 : Int32) : Option (Int32 × zI) :=
  (fm_is I a1 (3 : Int32)).bind fun r1 =>
  if r1 = 0 then
    (fm_finding I (-1000001 : Int32)).bind fun r4 =>
    some (r4.1, r4.2)
  else
    (fm_within I a2 (0 : Int32) (1 : Int32)).bind fun r6 =>
    if r6 = 0 then
      (fm_finding I (-1000001 : Int32)).bind fun r9 =>
      some (r9.1, r9.2)
    else
      z_guard (zb (((186 : Int32) + ((2 : Int32) * a1)) + a2) 448) <|
      some ((I 1 (((186 : Int32) + ((2 : Int32) * a1)) + a2).toNatClampNeg), I)
set_option maxRecDepth 20000 in
theorem mt_fm_personIs {I : zI} {a1 : Int32} {a2 : Int32} {res : (Int32 × zI)} (h : fm_personIs I a1 a2 = some res) : zM 3 ym_212 [.inr (.inr (some 0)), .inl a1, .inl a2] (zMs, zMr, I) (some (.inl res.1)) (zMs, zMr, res.2) 0 0 := by
  refine zM_of (by decide) (Nat.le_of_ble_eq_true rfl) (lv := [(0, .inr (.inr (some 0))), (1, .inl a1), (2, .inl a2)]) rfl ?_
  rw [fm_personIs] at h
  refine zg_aload_n dd_212_0 rfl (j := 0) rfl ?_
  refine zg_iload_n dd_212_1 rfl (j := 1) rfl ?_
  refine zg_iconst dd_212_2 kI_3 ?_
  obtain ⟨r1, e2, h⟩ := z_bd h
  refine zg_invV_i (av := [.inl a1, .inl (3 : Int32)]) (st := []) (n := 2) dd_212_3 ca_144 zw_1150 zw_1152 zv_32 zMs_0 zcl_12 rfl (mt_fm_is e2) rfl ⟨by decide +kernel, by decide⟩ (Nat.le_of_ble_eq_true rfl) ?_
  refine zg_if_eq (tgt := 35) dd_212_6 (by decide) (fun q3 => ?_) (fun q3 => ?_)
  · replace h := z_t h q3
    refine zg_aload_n dd_212_35 rfl (j := 0) rfl ?_
    refine zg_ldc dd_212_36 zw_1139 ?_
    obtain ⟨r4, e5, h⟩ := z_bd h
    refine zg_invV_i (av := [.inl (-1000001 : Int32)]) (st := []) (n := 1) dd_212_38 ca_142 zw_1140 zw_1142 zv_31 zMs_0 zcl_12 rfl (mt_fm_finding e5) rfl ⟨by decide +kernel, by decide⟩ (Nat.le_of_ble_eq_true rfl) ?_
    obtain rfl := Option.some.inj h
    exact zg_iret dd_212_41 rfl
  · replace h := z_f h q3
    refine zg_iload_n dd_212_9 rfl (j := 2) rfl ?_
    refine zg_iconst dd_212_10 kI_0 ?_
    refine zg_iconst dd_212_11 kI_1 ?_
    obtain ⟨r6, e7, h⟩ := z_bd h
    refine zg_invS_i (av := [.inl a2, .inl (0 : Int32), .inl (1 : Int32)]) (st := []) (n := 3) dd_212_12 ca_141 zw_1136 zw_1137 (mt_fm_within e7) rfl ⟨by decide +kernel, by decide⟩ (Nat.le_of_ble_eq_true rfl) ?_
    refine zg_if_eq (tgt := 35) dd_212_15 (by decide) (fun q8 => ?_) (fun q8 => ?_)
    · replace h := z_t h q8
      refine zg_aload_n dd_212_35 rfl (j := 0) rfl ?_
      refine zg_ldc dd_212_36 zw_1139 ?_
      obtain ⟨r9, e10, h⟩ := z_bd h
      refine zg_invV_i (av := [.inl (-1000001 : Int32)]) (st := []) (n := 1) dd_212_38 ca_142 zw_1140 zw_1142 zv_31 zMs_0 zcl_12 rfl (mt_fm_finding e10) rfl ⟨by decide +kernel, by decide⟩ (Nat.le_of_ble_eq_true rfl) ?_
      obtain rfl := Option.some.inj h
      exact zg_iret dd_212_41 rfl
    · replace h := z_f h q8
      refine zg_aload_n dd_212_18 rfl (j := 0) rfl ?_
      refine zg_getR dd_212_19 zl_M_9 zMs_0 rfl zMr_0_0 ?_
      refine zg_sipush dd_212_22 kS_186 ?_
      refine zg_iconst dd_212_25 kI_2 ?_
      refine zg_iload_n dd_212_26 rfl (j := 1) rfl ?_
      refine zg_imul dd_212_27 ?_
      refine zg_iadd dd_212_28 ?_
      refine zg_iload_n dd_212_29 rfl (j := 2) rfl ?_
      refine zg_iadd dd_212_30 ?_
      obtain ⟨g11, h⟩ := z_gd h
      refine zg_iald (w := (I 1 (((186 : Int32) + ((2 : Int32) * a1)) + a2).toNatClampNeg)) dd_212_31 zMs_1 g11 rfl ?_
      refine zg_goto (tgt := 41) dd_212_32 (by decide) ?_
      obtain rfl := Option.some.inj h
      exact zg_iret dd_212_41 rfl
/-! TurnedLandModel.whereIs[0, None] -/
def fm_whereIs (I : zI) (a1 : Int32) : Option Int32 :=
  z_guard (zb ((186 : Int32) + ((2 : Int32) * a1)) 448) <|
  some (I 1 ((186 : Int32) + ((2 : Int32) * a1)).toNatClampNeg)
set_option maxRecDepth 20000 in
theorem mt_fm_whereIs {I : zI} {a1 : Int32} {res : Int32} (h : fm_whereIs I a1 = some res) : zM 1 ym_215 [.inr (.inr (some 0)), .inl a1] (zMs, zMr, I) (some (.inl res)) (zMs, zMr, I) 0 0 := by
  refine zM_of (by decide) (Nat.le_of_ble_eq_true rfl) (lv := [(0, .inr (.inr (some 0))), (1, .inl a1)]) rfl ?_
  rw [fm_whereIs] at h
  refine zg_aload_n dd_215_0 rfl (j := 0) rfl ?_
  refine zg_getR dd_215_1 zl_M_9 zMs_0 rfl zMr_0_0 ?_
  refine zg_sipush dd_215_4 kS_186 ?_
  refine zg_iconst dd_215_7 kI_2 ?_
  refine zg_iload_n dd_215_8 rfl (j := 1) rfl ?_
  refine zg_imul dd_215_9 ?_
  refine zg_iadd dd_215_10 ?_
  obtain ⟨g1, h⟩ := z_gd h
  refine zg_iald (w := (I 1 ((186 : Int32) + ((2 : Int32) * a1)).toNatClampNeg)) dd_215_11 zMs_1 g1 rfl ?_
  obtain rfl := Option.some.inj h
  exact zg_iret dd_215_12 rfl
/-! TurnedLandModel.goesOver[0, None, None] -/
def fm_goesOver (I : zI) (a1 : Int32) (a2 : Int32) : Option (Int32 × zI) :=
  (fm_whereIs I a1).bind fun r1 =>
  (fm_crosses I r1 a2).bind fun r3 =>
  if r3.1 = 0 then
    some ((0 : Int32), r3.2)
  else
    z_guard (zb ((186 : Int32) + ((2 : Int32) * a1)) 448) <|
    z_guard (zb (((186 : Int32) + ((2 : Int32) * a1)) + (1 : Int32)) 448) <|
    some ((1 : Int32), (zup (zup r3.2 1 ((186 : Int32) + ((2 : Int32) * a1)).toNatClampNeg (r3.2 0 14)) 1 (((186 : Int32) + ((2 : Int32) * a1)) + (1 : Int32)).toNatClampNeg (zmin (999999 : Int32) (((zup r3.2 1 ((186 : Int32) + ((2 : Int32) * a1)).toNatClampNeg (r3.2 0 14)) 1 (((186 : Int32) + ((2 : Int32) * a1)) + (1 : Int32)).toNatClampNeg) + (r3.2 0 15)))))
set_option maxRecDepth 20000 in
theorem mt_fm_goesOver {I : zI} {a1 : Int32} {a2 : Int32} {res : (Int32 × zI)} (h : fm_goesOver I a1 a2 = some res) : zM 5 ym_214 [.inr (.inr (some 0)), .inl a1, .inl a2] (zMs, zMr, I) (some (.inl res.1)) (zMs, zMr, res.2) 0 0 := by
  refine zM_of (by decide) (Nat.le_of_ble_eq_true rfl) (lv := [(0, .inr (.inr (some 0))), (1, .inl a1), (2, .inl a2)]) rfl ?_
  rw [fm_goesOver] at h
  refine zg_aload_n dd_214_0 rfl (j := 0) rfl ?_
  refine zg_aload_n dd_214_1 rfl (j := 0) rfl ?_
  refine zg_iload_n dd_214_2 rfl (j := 1) rfl ?_
  obtain ⟨r1, e2, h⟩ := z_bd h
  refine zg_invV_i (av := [.inl a1]) (st := [.inr (.inr (some 0))]) (n := 1) dd_214_3 ca_215 zw_1456 zw_1458 zv_69 zMs_0 zcl_12 rfl (mt_fm_whereIs e2) rfl ⟨by decide +kernel, by decide⟩ (Nat.le_of_ble_eq_true rfl) ?_
  refine zg_iload_n dd_214_6 rfl (j := 2) rfl ?_
  obtain ⟨r3, e4, h⟩ := z_bd h
  refine zg_invV_i (av := [.inl r1, .inl a2]) (st := []) (n := 2) dd_214_7 ca_193 zw_1370 zw_1372 zv_61 zMs_0 zcl_12 rfl (mt_fm_crosses e4) rfl ⟨by decide +kernel, by decide⟩ (Nat.le_of_ble_eq_true rfl) ?_
  refine zg_if_ne (tgt := 15) dd_214_10 (by decide) (fun q5 => ?_) (fun q5 => ?_)
  · replace h := z_f h q5
    refine zg_aload_n dd_214_15 rfl (j := 0) rfl ?_
    refine zg_getR dd_214_16 zl_M_9 zMs_0 rfl zMr_0_0 ?_
    refine zg_sipush dd_214_19 kS_186 ?_
    refine zg_iconst dd_214_22 kI_2 ?_
    refine zg_iload_n dd_214_23 rfl (j := 1) rfl ?_
    refine zg_imul dd_214_24 ?_
    refine zg_iadd dd_214_25 ?_
    refine zg_aload_n dd_214_26 rfl (j := 0) rfl ?_
    refine zg_getI (x := (r3.2 0 14)) dd_214_27 zl_M_209 zMs_0 rfl rfl ?_
    obtain ⟨g6, h⟩ := z_gd h
    refine zg_iast dd_214_30 zMs_1 g6 ?_
    refine zg_aload_n dd_214_31 rfl (j := 0) rfl ?_
    refine zg_getR dd_214_32 zl_M_9 zMs_0 rfl zMr_0_0 ?_
    refine zg_sipush dd_214_35 kS_186 ?_
    refine zg_iconst dd_214_38 kI_2 ?_
    refine zg_iload_n dd_214_39 rfl (j := 1) rfl ?_
    refine zg_imul dd_214_40 ?_
    refine zg_iadd dd_214_41 ?_
    refine zg_iconst dd_214_42 kI_1 ?_
    refine zg_iadd dd_214_43 ?_
    refine zg_ldcw dd_214_44 zw_1460 ?_
    refine zg_aload_n dd_214_47 rfl (j := 0) rfl ?_
    refine zg_getR dd_214_48 zl_M_9 zMs_0 rfl zMr_0_0 ?_
    refine zg_sipush dd_214_51 kS_186 ?_
    refine zg_iconst dd_214_54 kI_2 ?_
    refine zg_iload_n dd_214_55 rfl (j := 1) rfl ?_
    refine zg_imul dd_214_56 ?_
    refine zg_iadd dd_214_57 ?_
    refine zg_iconst dd_214_58 kI_1 ?_
    refine zg_iadd dd_214_59 ?_
    obtain ⟨g7, h⟩ := z_gd h
    refine zg_iald (w := ((zup r3.2 1 ((186 : Int32) + ((2 : Int32) * a1)).toNatClampNeg (r3.2 0 14)) 1 (((186 : Int32) + ((2 : Int32) * a1)) + (1 : Int32)).toNatClampNeg)) dd_214_60 zMs_1 g7 rfl ?_
    refine zg_aload_n dd_214_61 rfl (j := 0) rfl ?_
    refine zg_getI (x := (r3.2 0 15)) dd_214_62 zl_M_216 zMs_0 rfl rfl ?_
    refine zg_iadd dd_214_65 ?_
    refine zg_zmin (st := [.inl (((186 : Int32) + ((2 : Int32) * a1)) + (1 : Int32)), .inr (.inr (some 1))]) dd_214_66 zw_1223 zmin_w (Nat.le_of_ble_eq_true rfl) (Nat.le_of_ble_eq_true rfl) ?_
    refine zg_iast dd_214_69 zMs_1 g7 ?_
    refine zg_iconst dd_214_70 kI_1 ?_
    obtain rfl := Option.some.inj h
    exact zg_zret dd_214_71 rfl zSt_b1.1
  · replace h := z_t h q5
    refine zg_iconst dd_214_13 kI_0 ?_
    obtain rfl := Option.some.inj h
    exact zg_zret dd_214_14 rfl zSt_b0.1
/-! TurnedLandModel.cross(0, None, None) -/
def fm_cross (I : zI) (a1 : Int32) (a2 : Int32) : Option (Int32 × zI) :=
  (fm_is I a1 (3 : Int32)).bind fun r1 =>
  if r1 = 0 then
    (fm_finding I (-1000001 : Int32)).bind fun r4 =>
    some (r4.1, r4.2)
  else
    (fm_within I a2 (0 : Int32) (3 : Int32)).bind fun r6 =>
    if r6 = 0 then
      (fm_finding I (-1000001 : Int32)).bind fun r16 =>
      some (r16.1, r16.2)
    else
      (fm_goesOver I a1 a2).bind fun r9 =>
      if r9.1 = 0 then
        (fm_finding r9.2 (-1000003 : Int32)).bind fun r12 =>
        some (r12.1, r12.2)
      else
        (fm_whereIs r9.2 a1).bind fun r14 =>
        some (r14, r9.2)
set_option maxRecDepth 20000 in
theorem mt_fm_cross {I : zI} {a1 : Int32} {a2 : Int32} {res : (Int32 × zI)} (h : fm_cross I a1 a2 = some res) : zM 6 ym_213 [.inr (.inr (some 0)), .inl a1, .inl a2] (zMs, zMr, I) (some (.inl res.1)) (zMs, zMr, res.2) 0 0 := by
  refine zM_of (by decide) (Nat.le_of_ble_eq_true rfl) (lv := [(0, .inr (.inr (some 0))), (1, .inl a1), (2, .inl a2)]) rfl ?_
  rw [fm_cross] at h
  refine zg_aload_n dd_213_0 rfl (j := 0) rfl ?_
  refine zg_iload_n dd_213_1 rfl (j := 1) rfl ?_
  refine zg_iconst dd_213_2 kI_3 ?_
  obtain ⟨r1, e2, h⟩ := z_bd h
  refine zg_invV_i (av := [.inl a1, .inl (3 : Int32)]) (st := []) (n := 2) dd_213_3 ca_144 zw_1150 zw_1152 zv_32 zMs_0 zcl_12 rfl (mt_fm_is e2) rfl ⟨by decide +kernel, by decide⟩ (Nat.le_of_ble_eq_true rfl) ?_
  refine zg_if_eq (tgt := 18) dd_213_6 (by decide) (fun q3 => ?_) (fun q3 => ?_)
  · replace h := z_t h q3
    refine zg_aload_n dd_213_18 rfl (j := 0) rfl ?_
    refine zg_ldc dd_213_19 zw_1139 ?_
    obtain ⟨r4, e5, h⟩ := z_bd h
    refine zg_invV_i (av := [.inl (-1000001 : Int32)]) (st := []) (n := 1) dd_213_21 ca_142 zw_1140 zw_1142 zv_31 zMs_0 zcl_12 rfl (mt_fm_finding e5) rfl ⟨by decide +kernel, by decide⟩ (Nat.le_of_ble_eq_true rfl) ?_
    obtain rfl := Option.some.inj h
    exact zg_iret dd_213_24 rfl
  · replace h := z_f h q3
    refine zg_iload_n dd_213_9 rfl (j := 2) rfl ?_
    refine zg_iconst dd_213_10 kI_0 ?_
    refine zg_iconst dd_213_11 kI_3 ?_
    obtain ⟨r6, e7, h⟩ := z_bd h
    refine zg_invS_i (av := [.inl a2, .inl (0 : Int32), .inl (3 : Int32)]) (st := []) (n := 3) dd_213_12 ca_141 zw_1136 zw_1137 (mt_fm_within e7) rfl ⟨by decide +kernel, by decide⟩ (Nat.le_of_ble_eq_true rfl) ?_
    refine zg_if_ne (tgt := 25) dd_213_15 (by decide) (fun q8 => ?_) (fun q8 => ?_)
    · replace h := z_f h q8
      refine zg_aload_n dd_213_25 rfl (j := 0) rfl ?_
      refine zg_iload_n dd_213_26 rfl (j := 1) rfl ?_
      refine zg_iload_n dd_213_27 rfl (j := 2) rfl ?_
      obtain ⟨r9, e10, h⟩ := z_bd h
      refine zg_invV_i (av := [.inl a1, .inl a2]) (st := []) (n := 2) dd_213_28 ca_214 zw_1452 zw_1454 zv_68 zMs_0 zcl_12 rfl (mt_fm_goesOver e10) rfl ⟨by decide +kernel, by decide⟩ (Nat.le_of_ble_eq_true rfl) ?_
      refine zg_if_eq (tgt := 42) dd_213_31 (by decide) (fun q11 => ?_) (fun q11 => ?_)
      · replace h := z_t h q11
        refine zg_aload_n dd_213_42 rfl (j := 0) rfl ?_
        refine zg_ldc dd_213_43 zw_1178 ?_
        obtain ⟨r12, e13, h⟩ := z_bd h
        refine zg_invV_i (av := [.inl (-1000003 : Int32)]) (st := []) (n := 1) dd_213_45 ca_142 zw_1140 zw_1142 zv_31 zMs_0 zcl_12 rfl (mt_fm_finding e13) rfl ⟨by decide +kernel, by decide⟩ (Nat.le_of_ble_eq_true rfl) ?_
        obtain rfl := Option.some.inj h
        exact zg_iret dd_213_48 rfl
      · replace h := z_f h q11
        refine zg_aload_n dd_213_34 rfl (j := 0) rfl ?_
        refine zg_iload_n dd_213_35 rfl (j := 1) rfl ?_
        obtain ⟨r14, e15, h⟩ := z_bd h
        refine zg_invV_i (av := [.inl a1]) (st := []) (n := 1) dd_213_36 ca_215 zw_1456 zw_1458 zv_69 zMs_0 zcl_12 rfl (mt_fm_whereIs e15) rfl ⟨by decide +kernel, by decide⟩ (Nat.le_of_ble_eq_true rfl) ?_
        refine zg_goto (tgt := 48) dd_213_39 (by decide) ?_
        obtain rfl := Option.some.inj h
        exact zg_iret dd_213_48 rfl
    · replace h := z_t h q8
      refine zg_aload_n dd_213_18 rfl (j := 0) rfl ?_
      refine zg_ldc dd_213_19 zw_1139 ?_
      obtain ⟨r16, e17, h⟩ := z_bd h
      refine zg_invV_i (av := [.inl (-1000001 : Int32)]) (st := []) (n := 1) dd_213_21 ca_142 zw_1140 zw_1142 zv_31 zMs_0 zcl_12 rfl (mt_fm_finding e17) rfl ⟨by decide +kernel, by decide⟩ (Nat.le_of_ble_eq_true rfl) ?_
      obtain rfl := Option.some.inj h
      exact zg_iret dd_213_24 rfl
/-! TurnedLandModel.drawn[0, None] -/
def fm_drawn (I : zI) (a1 : Int32) : Option (Int32 × zI) :=
  if a1 = 0 then none else
  some (((zush (((I 1 (8 : Int32).toNatClampNeg) * (1103515245 : Int32)) + (12345 : Int32)) (8 : Int32)) % a1), (zup I 1 (8 : Int32).toNatClampNeg (((I 1 (8 : Int32).toNatClampNeg) * (1103515245 : Int32)) + (12345 : Int32))))
set_option maxRecDepth 20000 in
theorem mt_fm_drawn {I : zI} {a1 : Int32} {res : (Int32 × zI)} (h : fm_drawn I a1 = some res) : zM 1 ym_217 [.inr (.inr (some 0)), .inl a1] (zMs, zMr, I) (some (.inl res.1)) (zMs, zMr, res.2) 0 0 := by
  refine zM_of (by decide) (Nat.le_of_ble_eq_true rfl) (lv := [(0, .inr (.inr (some 0))), (1, .inl a1)]) rfl ?_
  rw [fm_drawn] at h
  refine zg_aload_n dd_217_0 rfl (j := 0) rfl ?_
  refine zg_getR dd_217_1 zl_M_9 zMs_0 rfl zMr_0_0 ?_
  refine zg_bipush dd_217_4 kB_8 ?_
  refine zg_aload_n dd_217_6 rfl (j := 0) rfl ?_
  refine zg_getR dd_217_7 zl_M_9 zMs_0 rfl zMr_0_0 ?_
  refine zg_bipush dd_217_10 kB_8 ?_
  refine zg_iald (w := (I 1 (8 : Int32).toNatClampNeg)) dd_217_12 zMs_1 (by decide) rfl ?_
  refine zg_ldcw dd_217_13 zw_1469 ?_
  refine zg_imul dd_217_16 ?_
  refine zg_sipush dd_217_17 kS_12345 ?_
  refine zg_iadd dd_217_20 ?_
  refine zg_iast dd_217_21 zMs_1 (by decide) ?_
  refine zg_aload_n dd_217_22 rfl (j := 0) rfl ?_
  refine zg_getR dd_217_23 zl_M_9 zMs_0 rfl zMr_0_0 ?_
  refine zg_bipush dd_217_26 kB_8 ?_
  refine zg_iald (w := (((I 1 (8 : Int32).toNatClampNeg) * (1103515245 : Int32)) + (12345 : Int32))) dd_217_28 zMs_1 (by decide) (by simp [zup]) ?_
  refine zg_bipush dd_217_29 kB_8 ?_
  refine zg_iushr dd_217_31 ?_
  refine zg_iload_n dd_217_32 rfl (j := 1) rfl ?_
  rcases z_if h with ⟨_, h⟩ | ⟨g1, h⟩
  · cases h
  refine zg_irem dd_217_33 g1 ?_
  obtain rfl := Option.some.inj h
  exact zg_iret dd_217_34 rfl
/-! TurnedLandModel.stroll(0, None, None) -/
def fm_stroll_L28 : Nat → Int32 → Int32 → Int32 → zI → Option (Int32 × zI)
  | 0, _, _, _, _ => none
  | nf + 1, v1, v2, v3, I =>
    if v2 ≤ v3 then
      (fm_whereIs I v1).bind fun r10 =>
      some (r10, I)
    else
      (fm_drawn I (4 : Int32)).bind fun r12 =>
      (fm_goesOver r12.2 v1 r12.1).bind fun r14 =>
      fm_stroll_L28 nf v1 v2 (v3 + (1 : Int32)) r14.2
def fm_stroll (I : zI) (a1 : Int32) (a2 : Int32) : Option (Int32 × zI) :=
  (fm_is I a1 (3 : Int32)).bind fun r1 =>
  if r1 = 0 then
    (fm_finding I (-1000001 : Int32)).bind fun r4 =>
    some (r4.1, r4.2)
  else
    (fm_within I a2 (1 : Int32) (60 : Int32)).bind fun r6 =>
    if r6 = 0 then
      (fm_finding I (-1000001 : Int32)).bind fun r16 =>
      some (r16.1, r16.2)
    else
      fm_stroll_L28
        100 a1 a2 (0 : Int32) I
set_option maxRecDepth 20000 in
theorem lt_fm_stroll_L28 {res : (Int32 × zI)} : ∀ (nf : Nat) (v1 : Int32) (v2 : Int32) (v3 : Int32) (I : zI), fm_stroll_L28 nf v1 v2 v3 I = some res → zG 6 ym_216 0 0 (some (.inl res.1)) (zMs, zMr, res.2) zMs.length 28 [(0, .inr (.inr (some 0))), (1, .inl v1), (2, .inl v2), (3, .inl v3)] [] (zMs, zMr, I) 0 0 := by
  intro nf
  induction nf with
  | zero =>
    intro v1 v2 v3 I h
    have h2 : none = some res := h
    cases h2
  | succ nf ih =>
    intro v1 v2 v3 I h
    rw [fm_stroll_L28] at h
    refine zg_iload_n dd_216_28 rfl (j := 3) rfl ?_
    refine zg_iload_n dd_216_29 rfl (j := 2) rfl ?_
    refine zg_icmp_ge (tgt := 51) dd_216_30 (by decide) (fun q9 => ?_) (fun q9 => ?_)
    · replace h := z_t h q9
      refine zg_aload_n dd_216_51 rfl (j := 0) rfl ?_
      refine zg_iload_n dd_216_52 rfl (j := 1) rfl ?_
      obtain ⟨r10, e11, h⟩ := z_bd h
      refine zg_invV_i (av := [.inl v1]) (st := []) (n := 1) dd_216_53 ca_215 zw_1456 zw_1458 zv_69 zMs_0 zcl_12 rfl (mt_fm_whereIs e11) rfl ⟨by decide +kernel, by decide⟩ (Nat.le_of_ble_eq_true rfl) ?_
      obtain rfl := Option.some.inj h
      exact zg_iret dd_216_56 rfl
    · replace h := z_f h q9
      refine zg_aload_n dd_216_33 rfl (j := 0) rfl ?_
      refine zg_iload_n dd_216_34 rfl (j := 1) rfl ?_
      refine zg_aload_n dd_216_35 rfl (j := 0) rfl ?_
      refine zg_iconst dd_216_36 kI_4 ?_
      obtain ⟨r12, e13, h⟩ := z_bd h
      refine zg_invV_i (av := [.inl (4 : Int32)]) (st := [.inl v1, .inr (.inr (some 0))]) (n := 1) dd_216_37 ca_217 zw_1465 zw_1467 zv_70 zMs_0 zcl_12 rfl (mt_fm_drawn e13) rfl ⟨by decide +kernel, by decide⟩ (Nat.le_of_ble_eq_true rfl) ?_
      obtain ⟨r14, e15, h⟩ := z_bd h
      refine zg_invV_i (av := [.inl v1, .inl r12.1]) (st := []) (n := 2) dd_216_40 ca_214 zw_1452 zw_1454 zv_68 zMs_0 zcl_12 rfl (mt_fm_goesOver e15) rfl ⟨by decide +kernel, by decide⟩ (Nat.le_of_ble_eq_true rfl) ?_
      refine zg_istore dd_216_43 (Nat.le_of_ble_eq_true rfl) (lv' := [(4, .inl r14.1), (0, .inr (.inr (some 0))), (1, .inl v1), (2, .inl v2), (3, .inl v3)]) rfl ?_
      refine zg_iinc dd_216_45 (j := 4) rfl (v := (v3 + (1 : Int32))) (by rw [kI_1]) (Nat.le_of_ble_eq_true rfl) (lv' := [(3, .inl (v3 + (1 : Int32))), (4, .inl r14.1), (0, .inr (.inr (some 0))), (1, .inl v1), (2, .inl v2)]) rfl ?_
      refine zg_goto (tgt := 28) dd_216_48 (by decide) ?_
      refine zg_sub [2, 3, 4, 0] rfl ?_
      exact ih _ _ _ _ h
set_option maxRecDepth 20000 in
theorem mt_fm_stroll {I : zI} {a1 : Int32} {a2 : Int32} {res : (Int32 × zI)} (h : fm_stroll I a1 a2 = some res) : zM 6 ym_216 [.inr (.inr (some 0)), .inl a1, .inl a2] (zMs, zMr, I) (some (.inl res.1)) (zMs, zMr, res.2) 0 0 := by
  refine zM_of (by decide) (Nat.le_of_ble_eq_true rfl) (lv := [(0, .inr (.inr (some 0))), (1, .inl a1), (2, .inl a2)]) rfl ?_
  rw [fm_stroll] at h
  refine zg_aload_n dd_216_0 rfl (j := 0) rfl ?_
  refine zg_iload_n dd_216_1 rfl (j := 1) rfl ?_
  refine zg_iconst dd_216_2 kI_3 ?_
  obtain ⟨r1, e2, h⟩ := z_bd h
  refine zg_invV_i (av := [.inl a1, .inl (3 : Int32)]) (st := []) (n := 2) dd_216_3 ca_144 zw_1150 zw_1152 zv_32 zMs_0 zcl_12 rfl (mt_fm_is e2) rfl ⟨by decide +kernel, by decide⟩ (Nat.le_of_ble_eq_true rfl) ?_
  refine zg_if_eq (tgt := 19) dd_216_6 (by decide) (fun q3 => ?_) (fun q3 => ?_)
  · replace h := z_t h q3
    refine zg_aload_n dd_216_19 rfl (j := 0) rfl ?_
    refine zg_ldc dd_216_20 zw_1139 ?_
    obtain ⟨r4, e5, h⟩ := z_bd h
    refine zg_invV_i (av := [.inl (-1000001 : Int32)]) (st := []) (n := 1) dd_216_22 ca_142 zw_1140 zw_1142 zv_31 zMs_0 zcl_12 rfl (mt_fm_finding e5) rfl ⟨by decide +kernel, by decide⟩ (Nat.le_of_ble_eq_true rfl) ?_
    obtain rfl := Option.some.inj h
    exact zg_iret dd_216_25 rfl
  · replace h := z_f h q3
    refine zg_iload_n dd_216_9 rfl (j := 2) rfl ?_
    refine zg_iconst dd_216_10 kI_1 ?_
    refine zg_bipush dd_216_11 kB_60 ?_
    obtain ⟨r6, e7, h⟩ := z_bd h
    refine zg_invS_i (av := [.inl a2, .inl (1 : Int32), .inl (60 : Int32)]) (st := []) (n := 3) dd_216_13 ca_141 zw_1136 zw_1137 (mt_fm_within e7) rfl ⟨by decide +kernel, by decide⟩ (Nat.le_of_ble_eq_true rfl) ?_
    refine zg_if_ne (tgt := 26) dd_216_16 (by decide) (fun q8 => ?_) (fun q8 => ?_)
    · replace h := z_f h q8
      refine zg_iconst dd_216_26 kI_0 ?_
      refine zg_istore_n dd_216_27 rfl (Nat.le_of_ble_eq_true rfl) (lv' := [(3, .inl (0 : Int32)), (0, .inr (.inr (some 0))), (1, .inl a1), (2, .inl a2)]) rfl ?_
      refine zg_sub [1, 2, 3, 0] rfl ?_
      refine lt_fm_stroll_L28  _ _ _ _ _ h
    · replace h := z_t h q8
      refine zg_aload_n dd_216_19 rfl (j := 0) rfl ?_
      refine zg_ldc dd_216_20 zw_1139 ?_
      obtain ⟨r16, e17, h⟩ := z_bd h
      refine zg_invV_i (av := [.inl (-1000001 : Int32)]) (st := []) (n := 1) dd_216_22 ca_142 zw_1140 zw_1142 zv_31 zMs_0 zcl_12 rfl (mt_fm_finding e17) rfl ⟨by decide +kernel, by decide⟩ (Nat.le_of_ble_eq_true rfl) ?_
      obtain rfl := Option.some.inj h
      exact zg_iret dd_216_25 rfl
/-! TurnedLandModel.meet(0, None, None, None) -/
def fm_meet_L72 : Nat → Int32 → Int32 → Int32 → Int32 → Int32 → Int32 → zI → Option (Int32 × zI)
  | 0, _, _, _, _, _, _, _ => none
  | nf + 1, v1, v2, v3, v4, v5, v6, I =>
    if ((2 : Int32) * (I 1 (0 : Int32).toNatClampNeg)) ≤ v6 then
      if 0 ≤ v4 then
        if v3 = (1 : Int32) then
          some (v5, I)
        else
          some ((v4 / (2 : Int32)), I)
      else
        (fm_finding I (-1000002 : Int32)).bind fun r21 =>
        some (r21.1, r21.2)
    else
      (fm_whereIs I v1).bind fun r23 =>
      (fm_soonestOf I r23 v6).bind fun r25 =>
      (fm_whereIs r25.2 v2).bind fun r27 =>
      (fm_soonestOf r25.2 r27 v6).bind fun r29 =>
      if v5 ≤ (r25.1 + r29.1) then
        fm_meet_L72 nf v1 v2 v3 v4 v5 (v6 + (1 : Int32)) r29.2
      else
        fm_meet_L72 nf v1 v2 v3 v6 (r25.1 + r29.1) (v6 + (1 : Int32)) r29.2
def fm_meet (I : zI) (a1 : Int32) (a2 : Int32) (a3 : Int32) : Option (Int32 × zI) :=
  (fm_is I a1 (3 : Int32)).bind fun r1 =>
  if r1 = 0 then
    (fm_finding I (-1000001 : Int32)).bind fun r4 =>
    some (r4.1, r4.2)
  else
    (fm_is I a2 (3 : Int32)).bind fun r6 =>
    if r6 = 0 then
      (fm_finding I (-1000001 : Int32)).bind fun r9 =>
      some (r9.1, r9.2)
    else
      if a1 = a2 then
        (fm_finding I (-1000001 : Int32)).bind fun r12 =>
        some (r12.1, r12.2)
      else
        (fm_within I a3 (0 : Int32) (2 : Int32)).bind fun r14 =>
        if r14 = 0 then
          (fm_finding I (-1000001 : Int32)).bind fun r37 =>
          some (r37.1, r37.2)
        else
          if a3 = 0 then
            (fm_whereIs I a1).bind fun r32 =>
            (fm_whereIs I a2).bind fun r34 =>
            if r32 = r34 then
              some ((1 : Int32), I)
            else
              some ((0 : Int32), I)
          else
            fm_meet_L72
              100 a1 a2 a3 (-1 : Int32) (100000000 : Int32) (0 : Int32) I
set_option maxRecDepth 20000 in
theorem lt_fm_meet_L72 {res : (Int32 × zI)} : ∀ (nf : Nat) (v1 : Int32) (v2 : Int32) (v3 : Int32) (v4 : Int32) (v5 : Int32) (v6 : Int32) (I : zI), fm_meet_L72 nf v1 v2 v3 v4 v5 v6 I = some res → zG 7 ym_218 0 0 (some (.inl res.1)) (zMs, zMr, res.2) zMs.length 72 [(0, .inr (.inr (some 0))), (1, .inl v1), (2, .inl v2), (3, .inl v3), (4, .inl v4), (5, .inl v5), (6, .inl v6)] [] (zMs, zMr, I) 0 0 := by
  intro nf
  induction nf with
  | zero =>
    intro v1 v2 v3 v4 v5 v6 I h
    have h2 : none = some res := h
    cases h2
  | succ nf ih =>
    intro v1 v2 v3 v4 v5 v6 I h
    rw [fm_meet_L72] at h
    refine zg_iload dd_218_72 (j := 6) rfl ?_
    refine zg_iconst dd_218_74 kI_2 ?_
    refine zg_aload_n dd_218_75 rfl (j := 0) rfl ?_
    refine zg_getR dd_218_76 zl_M_9 zMs_0 rfl zMr_0_0 ?_
    refine zg_iconst dd_218_79 kI_0 ?_
    refine zg_iald (w := (I 1 (0 : Int32).toNatClampNeg)) dd_218_80 zMs_1 (by decide) rfl ?_
    refine zg_imul dd_218_81 ?_
    refine zg_icmp_ge (tgt := 131) dd_218_82 (by decide) (fun q18 => ?_) (fun q18 => ?_)
    · replace h := z_t h q18
      refine zg_iload dd_218_131 (j := 4) rfl ?_
      refine zg_if_ge (tgt := 145) dd_218_133 (by decide) (fun q19 => ?_) (fun q19 => ?_)
      · replace h := z_t h q19
        refine zg_iload_n dd_218_145 rfl (j := 3) rfl ?_
        refine zg_iconst dd_218_146 kI_1 ?_
        refine zg_icmp_ne (tgt := 155) dd_218_147 (by decide) (fun q20 => ?_) (fun q20 => ?_)
        · replace h := z_f h q20
          refine zg_iload dd_218_155 (j := 4) rfl ?_
          refine zg_iconst dd_218_157 kI_2 ?_
          refine zg_idiv dd_218_158 (by decide) ?_
          obtain rfl := Option.some.inj h
          exact zg_iret dd_218_159 rfl
        · replace h := z_t h q20
          refine zg_iload dd_218_150 (j := 5) rfl ?_
          refine zg_goto (tgt := 159) dd_218_152 (by decide) ?_
          obtain rfl := Option.some.inj h
          exact zg_iret dd_218_159 rfl
      · replace h := z_f h q19
        refine zg_aload_n dd_218_136 rfl (j := 0) rfl ?_
        refine zg_ldc dd_218_137 zw_1199 ?_
        obtain ⟨r21, e22, h⟩ := z_bd h
        refine zg_invV_i (av := [.inl (-1000002 : Int32)]) (st := []) (n := 1) dd_218_139 ca_142 zw_1140 zw_1142 zv_31 zMs_0 zcl_12 rfl (mt_fm_finding e22) rfl ⟨by decide +kernel, by decide⟩ (Nat.le_of_ble_eq_true rfl) ?_
        refine zg_goto (tgt := 159) dd_218_142 (by decide) ?_
        obtain rfl := Option.some.inj h
        exact zg_iret dd_218_159 rfl
    · replace h := z_f h q18
      refine zg_aload_n dd_218_85 rfl (j := 0) rfl ?_
      refine zg_aload_n dd_218_86 rfl (j := 0) rfl ?_
      refine zg_iload_n dd_218_87 rfl (j := 1) rfl ?_
      obtain ⟨r23, e24, h⟩ := z_bd h
      refine zg_invV_i (av := [.inl v1]) (st := [.inr (.inr (some 0))]) (n := 1) dd_218_88 ca_215 zw_1456 zw_1458 zv_69 zMs_0 zcl_12 rfl (mt_fm_whereIs e24) rfl ⟨by decide +kernel, by decide⟩ (Nat.le_of_ble_eq_true rfl) ?_
      refine zg_iload dd_218_91 (j := 6) rfl ?_
      obtain ⟨r25, e26, h⟩ := z_bd h
      refine zg_invV_i (av := [.inl r23, .inl v6]) (st := []) (n := 2) dd_218_93 ca_191 zw_1361 zw_1363 zv_59 zMs_0 zcl_12 rfl (mt_fm_soonestOf e26) rfl ⟨by decide +kernel, by decide⟩ (Nat.le_of_ble_eq_true rfl) ?_
      refine zg_aload_n dd_218_96 rfl (j := 0) rfl ?_
      refine zg_aload_n dd_218_97 rfl (j := 0) rfl ?_
      refine zg_iload_n dd_218_98 rfl (j := 2) rfl ?_
      obtain ⟨r27, e28, h⟩ := z_bd h
      refine zg_invV_i (av := [.inl v2]) (st := [.inr (.inr (some 0)), .inl r25.1]) (n := 1) dd_218_99 ca_215 zw_1456 zw_1458 zv_69 zMs_0 zcl_12 rfl (mt_fm_whereIs e28) rfl ⟨by decide +kernel, by decide⟩ (Nat.le_of_ble_eq_true rfl) ?_
      refine zg_iload dd_218_102 (j := 6) rfl ?_
      obtain ⟨r29, e30, h⟩ := z_bd h
      refine zg_invV_i (av := [.inl r27, .inl v6]) (st := [.inl r25.1]) (n := 2) dd_218_104 ca_191 zw_1361 zw_1363 zv_59 zMs_0 zcl_12 rfl (mt_fm_soonestOf e30) rfl ⟨by decide +kernel, by decide⟩ (Nat.le_of_ble_eq_true rfl) ?_
      refine zg_iadd dd_218_107 ?_
      refine zg_istore dd_218_108 (Nat.le_of_ble_eq_true rfl) (lv' := [(7, .inl (r25.1 + r29.1)), (0, .inr (.inr (some 0))), (1, .inl v1), (2, .inl v2), (3, .inl v3), (4, .inl v4), (5, .inl v5), (6, .inl v6)]) rfl ?_
      refine zg_iload dd_218_110 (j := 0) rfl ?_
      refine zg_iload dd_218_112 (j := 6) rfl ?_
      refine zg_icmp_ge (tgt := 125) dd_218_114 (by decide) (fun q31 => ?_) (fun q31 => ?_)
      · replace h := z_t h q31
        refine zg_iinc dd_218_125 (j := 7) rfl (v := (v6 + (1 : Int32))) (by rw [kI_1]) (Nat.le_of_ble_eq_true rfl) (lv' := [(6, .inl (v6 + (1 : Int32))), (7, .inl (r25.1 + r29.1)), (0, .inr (.inr (some 0))), (1, .inl v1), (2, .inl v2), (3, .inl v3), (4, .inl v4), (5, .inl v5)]) rfl ?_
        refine zg_goto (tgt := 72) dd_218_128 (by decide) ?_
        refine zg_sub [2, 3, 4, 5, 6, 7, 0] rfl ?_
        exact ih _ _ _ _ _ _ _ h
      · replace h := z_f h q31
        refine zg_iload dd_218_117 (j := 0) rfl ?_
        refine zg_istore dd_218_119 (Nat.le_of_ble_eq_true rfl) (lv' := [(5, .inl (r25.1 + r29.1)), (7, .inl (r25.1 + r29.1)), (0, .inr (.inr (some 0))), (1, .inl v1), (2, .inl v2), (3, .inl v3), (4, .inl v4), (6, .inl v6)]) rfl ?_
        refine zg_iload dd_218_121 (j := 7) rfl ?_
        refine zg_istore dd_218_123 (Nat.le_of_ble_eq_true rfl) (lv' := [(4, .inl v6), (5, .inl (r25.1 + r29.1)), (7, .inl (r25.1 + r29.1)), (0, .inr (.inr (some 0))), (1, .inl v1), (2, .inl v2), (3, .inl v3), (6, .inl v6)]) rfl ?_
        refine zg_iinc dd_218_125 (j := 7) rfl (v := (v6 + (1 : Int32))) (by rw [kI_1]) (Nat.le_of_ble_eq_true rfl) (lv' := [(6, .inl (v6 + (1 : Int32))), (4, .inl v6), (5, .inl (r25.1 + r29.1)), (7, .inl (r25.1 + r29.1)), (0, .inr (.inr (some 0))), (1, .inl v1), (2, .inl v2), (3, .inl v3)]) rfl ?_
        refine zg_goto (tgt := 72) dd_218_128 (by decide) ?_
        refine zg_sub [4, 5, 6, 7, 1, 2, 0] rfl ?_
        exact ih _ _ _ _ _ _ _ h
set_option maxRecDepth 20000 in
theorem mt_fm_meet {I : zI} {a1 : Int32} {a2 : Int32} {a3 : Int32} {res : (Int32 × zI)} (h : fm_meet I a1 a2 a3 = some res) : zM 7 ym_218 [.inr (.inr (some 0)), .inl a1, .inl a2, .inl a3] (zMs, zMr, I) (some (.inl res.1)) (zMs, zMr, res.2) 0 0 := by
  refine zM_of (by decide) (Nat.le_of_ble_eq_true rfl) (lv := [(0, .inr (.inr (some 0))), (1, .inl a1), (2, .inl a2), (3, .inl a3)]) rfl ?_
  rw [fm_meet] at h
  refine zg_aload_n dd_218_0 rfl (j := 0) rfl ?_
  refine zg_iload_n dd_218_1 rfl (j := 1) rfl ?_
  refine zg_iconst dd_218_2 kI_3 ?_
  obtain ⟨r1, e2, h⟩ := z_bd h
  refine zg_invV_i (av := [.inl a1, .inl (3 : Int32)]) (st := []) (n := 2) dd_218_3 ca_144 zw_1150 zw_1152 zv_32 zMs_0 zcl_12 rfl (mt_fm_is e2) rfl ⟨by decide +kernel, by decide⟩ (Nat.le_of_ble_eq_true rfl) ?_
  refine zg_if_eq (tgt := 32) dd_218_6 (by decide) (fun q3 => ?_) (fun q3 => ?_)
  · replace h := z_t h q3
    refine zg_aload_n dd_218_32 rfl (j := 0) rfl ?_
    refine zg_ldc dd_218_33 zw_1139 ?_
    obtain ⟨r4, e5, h⟩ := z_bd h
    refine zg_invV_i (av := [.inl (-1000001 : Int32)]) (st := []) (n := 1) dd_218_35 ca_142 zw_1140 zw_1142 zv_31 zMs_0 zcl_12 rfl (mt_fm_finding e5) rfl ⟨by decide +kernel, by decide⟩ (Nat.le_of_ble_eq_true rfl) ?_
    obtain rfl := Option.some.inj h
    exact zg_iret dd_218_38 rfl
  · replace h := z_f h q3
    refine zg_aload_n dd_218_9 rfl (j := 0) rfl ?_
    refine zg_iload_n dd_218_10 rfl (j := 2) rfl ?_
    refine zg_iconst dd_218_11 kI_3 ?_
    obtain ⟨r6, e7, h⟩ := z_bd h
    refine zg_invV_i (av := [.inl a2, .inl (3 : Int32)]) (st := []) (n := 2) dd_218_12 ca_144 zw_1150 zw_1152 zv_32 zMs_0 zcl_12 rfl (mt_fm_is e7) rfl ⟨by decide +kernel, by decide⟩ (Nat.le_of_ble_eq_true rfl) ?_
    refine zg_if_eq (tgt := 32) dd_218_15 (by decide) (fun q8 => ?_) (fun q8 => ?_)
    · replace h := z_t h q8
      refine zg_aload_n dd_218_32 rfl (j := 0) rfl ?_
      refine zg_ldc dd_218_33 zw_1139 ?_
      obtain ⟨r9, e10, h⟩ := z_bd h
      refine zg_invV_i (av := [.inl (-1000001 : Int32)]) (st := []) (n := 1) dd_218_35 ca_142 zw_1140 zw_1142 zv_31 zMs_0 zcl_12 rfl (mt_fm_finding e10) rfl ⟨by decide +kernel, by decide⟩ (Nat.le_of_ble_eq_true rfl) ?_
      obtain rfl := Option.some.inj h
      exact zg_iret dd_218_38 rfl
    · replace h := z_f h q8
      refine zg_iload_n dd_218_18 rfl (j := 1) rfl ?_
      refine zg_iload_n dd_218_19 rfl (j := 2) rfl ?_
      refine zg_icmp_eq (tgt := 32) dd_218_20 (by decide) (fun q11 => ?_) (fun q11 => ?_)
      · replace h := z_t h q11
        refine zg_aload_n dd_218_32 rfl (j := 0) rfl ?_
        refine zg_ldc dd_218_33 zw_1139 ?_
        obtain ⟨r12, e13, h⟩ := z_bd h
        refine zg_invV_i (av := [.inl (-1000001 : Int32)]) (st := []) (n := 1) dd_218_35 ca_142 zw_1140 zw_1142 zv_31 zMs_0 zcl_12 rfl (mt_fm_finding e13) rfl ⟨by decide +kernel, by decide⟩ (Nat.le_of_ble_eq_true rfl) ?_
        obtain rfl := Option.some.inj h
        exact zg_iret dd_218_38 rfl
      · replace h := z_f h q11
        refine zg_iload_n dd_218_23 rfl (j := 3) rfl ?_
        refine zg_iconst dd_218_24 kI_0 ?_
        refine zg_iconst dd_218_25 kI_2 ?_
        obtain ⟨r14, e15, h⟩ := z_bd h
        refine zg_invS_i (av := [.inl a3, .inl (0 : Int32), .inl (2 : Int32)]) (st := []) (n := 3) dd_218_26 ca_141 zw_1136 zw_1137 (mt_fm_within e15) rfl ⟨by decide +kernel, by decide⟩ (Nat.le_of_ble_eq_true rfl) ?_
        refine zg_if_ne (tgt := 39) dd_218_29 (by decide) (fun q16 => ?_) (fun q16 => ?_)
        · replace h := z_f h q16
          refine zg_iload_n dd_218_39 rfl (j := 3) rfl ?_
          refine zg_if_ne (tgt := 62) dd_218_40 (by decide) (fun q17 => ?_) (fun q17 => ?_)
          · replace h := z_f h q17
            refine zg_iconst dd_218_62 kI_m1 ?_
            refine zg_istore dd_218_63 (Nat.le_of_ble_eq_true rfl) (lv' := [(4, .inl (-1 : Int32)), (0, .inr (.inr (some 0))), (1, .inl a1), (2, .inl a2), (3, .inl a3)]) rfl ?_
            refine zg_ldc dd_218_65 zw_1369 ?_
            refine zg_istore dd_218_67 (Nat.le_of_ble_eq_true rfl) (lv' := [(5, .inl (100000000 : Int32)), (4, .inl (-1 : Int32)), (0, .inr (.inr (some 0))), (1, .inl a1), (2, .inl a2), (3, .inl a3)]) rfl ?_
            refine zg_iconst dd_218_69 kI_0 ?_
            refine zg_istore dd_218_70 (Nat.le_of_ble_eq_true rfl) (lv' := [(6, .inl (0 : Int32)), (5, .inl (100000000 : Int32)), (4, .inl (-1 : Int32)), (0, .inr (.inr (some 0))), (1, .inl a1), (2, .inl a2), (3, .inl a3)]) rfl ?_
            refine zg_sub [3, 4, 5, 6, 2, 1, 0] rfl ?_
            refine lt_fm_meet_L72  _ _ _ _ _ _ _ _ h
          · replace h := z_t h q17
            refine zg_aload_n dd_218_43 rfl (j := 0) rfl ?_
            refine zg_iload_n dd_218_44 rfl (j := 1) rfl ?_
            obtain ⟨r32, e33, h⟩ := z_bd h
            refine zg_invV_i (av := [.inl a1]) (st := []) (n := 1) dd_218_45 ca_215 zw_1456 zw_1458 zv_69 zMs_0 zcl_12 rfl (mt_fm_whereIs e33) rfl ⟨by decide +kernel, by decide⟩ (Nat.le_of_ble_eq_true rfl) ?_
            refine zg_aload_n dd_218_48 rfl (j := 0) rfl ?_
            refine zg_iload_n dd_218_49 rfl (j := 2) rfl ?_
            obtain ⟨r34, e35, h⟩ := z_bd h
            refine zg_invV_i (av := [.inl a2]) (st := [.inl r32]) (n := 1) dd_218_50 ca_215 zw_1456 zw_1458 zv_69 zMs_0 zcl_12 rfl (mt_fm_whereIs e35) rfl ⟨by decide +kernel, by decide⟩ (Nat.le_of_ble_eq_true rfl) ?_
            refine zg_icmp_ne (tgt := 60) dd_218_53 (by decide) (fun q36 => ?_) (fun q36 => ?_)
            · replace h := z_f h q36
              refine zg_iconst dd_218_60 kI_0 ?_
              obtain rfl := Option.some.inj h
              exact zg_iret dd_218_61 rfl
            · replace h := z_t h q36
              refine zg_iconst dd_218_56 kI_1 ?_
              refine zg_goto (tgt := 61) dd_218_57 (by decide) ?_
              obtain rfl := Option.some.inj h
              exact zg_iret dd_218_61 rfl
        · replace h := z_t h q16
          refine zg_aload_n dd_218_32 rfl (j := 0) rfl ?_
          refine zg_ldc dd_218_33 zw_1139 ?_
          obtain ⟨r37, e38, h⟩ := z_bd h
          refine zg_invV_i (av := [.inl (-1000001 : Int32)]) (st := []) (n := 1) dd_218_35 ca_142 zw_1140 zw_1142 zv_31 zMs_0 zcl_12 rfl (mt_fm_finding e38) rfl ⟨by decide +kernel, by decide⟩ (Nat.le_of_ble_eq_true rfl) ?_
          obtain rfl := Option.some.inj h
          exact zg_iret dd_218_38 rfl
/-! TurnedLandModel.thing(0, None, None, None) -/
def fm_thing (I : zI) (a1 : Int32) (a2 : Int32) (a3 : Int32) : Option (Int32 × zI) :=
  (fm_isPlace I a1).bind fun r1 =>
  if r1 = 0 then
    (fm_finding I (-1000001 : Int32)).bind fun r4 =>
    some (r4.1, r4.2)
  else
    (fm_within I a2 (0 : Int32) (9999 : Int32)).bind fun r6 =>
    if r6 = 0 then
      (fm_finding I (-1000001 : Int32)).bind fun r9 =>
      some (r9.1, r9.2)
    else
      (fm_within I a3 (0 : Int32) (1 : Int32)).bind fun r11 =>
      if r11 = 0 then
        (fm_finding I (-1000001 : Int32)).bind fun r20 =>
        some (r20.1, r20.2)
      else
        if (I 1 (4 : Int32).toNatClampNeg) = (6 : Int32) then
          (fm_finding I (-1000004 : Int32)).bind fun r18 =>
          some (r18.1, r18.2)
        else
          z_guard (zb ((198 : Int32) + ((3 : Int32) * (I 1 (4 : Int32).toNatClampNeg))) 448) <|
          z_guard (zb (((198 : Int32) + ((3 : Int32) * (I 1 (4 : Int32).toNatClampNeg))) + (1 : Int32)) 448) <|
          z_guard (zb (((198 : Int32) + ((3 : Int32) * (I 1 (4 : Int32).toNatClampNeg))) + (2 : Int32)) 448) <|
          some ((I 1 (4 : Int32).toNatClampNeg), (zup (zup (zup (zup I 1 ((198 : Int32) + ((3 : Int32) * (I 1 (4 : Int32).toNatClampNeg))).toNatClampNeg a1) 1 (((198 : Int32) + ((3 : Int32) * (I 1 (4 : Int32).toNatClampNeg))) + (1 : Int32)).toNatClampNeg a2) 1 (((198 : Int32) + ((3 : Int32) * (I 1 (4 : Int32).toNatClampNeg))) + (2 : Int32)).toNatClampNeg a3) 1 (4 : Int32).toNatClampNeg (((zup (zup (zup I 1 ((198 : Int32) + ((3 : Int32) * (I 1 (4 : Int32).toNatClampNeg))).toNatClampNeg a1) 1 (((198 : Int32) + ((3 : Int32) * (I 1 (4 : Int32).toNatClampNeg))) + (1 : Int32)).toNatClampNeg a2) 1 (((198 : Int32) + ((3 : Int32) * (I 1 (4 : Int32).toNatClampNeg))) + (2 : Int32)).toNatClampNeg a3) 1 (4 : Int32).toNatClampNeg) + (1 : Int32))))
set_option maxRecDepth 20000 in
theorem mt_fm_thing {I : zI} {a1 : Int32} {a2 : Int32} {a3 : Int32} {res : (Int32 × zI)} (h : fm_thing I a1 a2 a3 = some res) : zM 3 ym_219 [.inr (.inr (some 0)), .inl a1, .inl a2, .inl a3] (zMs, zMr, I) (some (.inl res.1)) (zMs, zMr, res.2) 0 0 := by
  refine zM_of (by decide) (Nat.le_of_ble_eq_true rfl) (lv := [(0, .inr (.inr (some 0))), (1, .inl a1), (2, .inl a2), (3, .inl a3)]) rfl ?_
  rw [fm_thing] at h
  refine zg_aload_n dd_219_0 rfl (j := 0) rfl ?_
  refine zg_iload_n dd_219_1 rfl (j := 1) rfl ?_
  obtain ⟨r1, e2, h⟩ := z_bd h
  refine zg_invV_i (av := [.inl a1]) (st := []) (n := 1) dd_219_2 ca_190 zw_1357 zw_1359 zv_58 zMs_0 zcl_12 rfl (mt_fm_isPlace e2) rfl ⟨by decide +kernel, by decide⟩ (Nat.le_of_ble_eq_true rfl) ?_
  refine zg_if_eq (tgt := 28) dd_219_5 (by decide) (fun q3 => ?_) (fun q3 => ?_)
  · replace h := z_t h q3
    refine zg_aload_n dd_219_28 rfl (j := 0) rfl ?_
    refine zg_ldc dd_219_29 zw_1139 ?_
    obtain ⟨r4, e5, h⟩ := z_bd h
    refine zg_invV_i (av := [.inl (-1000001 : Int32)]) (st := []) (n := 1) dd_219_31 ca_142 zw_1140 zw_1142 zv_31 zMs_0 zcl_12 rfl (mt_fm_finding e5) rfl ⟨by decide +kernel, by decide⟩ (Nat.le_of_ble_eq_true rfl) ?_
    obtain rfl := Option.some.inj h
    exact zg_iret dd_219_34 rfl
  · replace h := z_f h q3
    refine zg_iload_n dd_219_8 rfl (j := 2) rfl ?_
    refine zg_iconst dd_219_9 kI_0 ?_
    refine zg_sipush dd_219_10 kS_9999 ?_
    obtain ⟨r6, e7, h⟩ := z_bd h
    refine zg_invS_i (av := [.inl a2, .inl (0 : Int32), .inl (9999 : Int32)]) (st := []) (n := 3) dd_219_13 ca_141 zw_1136 zw_1137 (mt_fm_within e7) rfl ⟨by decide +kernel, by decide⟩ (Nat.le_of_ble_eq_true rfl) ?_
    refine zg_if_eq (tgt := 28) dd_219_16 (by decide) (fun q8 => ?_) (fun q8 => ?_)
    · replace h := z_t h q8
      refine zg_aload_n dd_219_28 rfl (j := 0) rfl ?_
      refine zg_ldc dd_219_29 zw_1139 ?_
      obtain ⟨r9, e10, h⟩ := z_bd h
      refine zg_invV_i (av := [.inl (-1000001 : Int32)]) (st := []) (n := 1) dd_219_31 ca_142 zw_1140 zw_1142 zv_31 zMs_0 zcl_12 rfl (mt_fm_finding e10) rfl ⟨by decide +kernel, by decide⟩ (Nat.le_of_ble_eq_true rfl) ?_
      obtain rfl := Option.some.inj h
      exact zg_iret dd_219_34 rfl
    · replace h := z_f h q8
      refine zg_iload_n dd_219_19 rfl (j := 3) rfl ?_
      refine zg_iconst dd_219_20 kI_0 ?_
      refine zg_iconst dd_219_21 kI_1 ?_
      obtain ⟨r11, e12, h⟩ := z_bd h
      refine zg_invS_i (av := [.inl a3, .inl (0 : Int32), .inl (1 : Int32)]) (st := []) (n := 3) dd_219_22 ca_141 zw_1136 zw_1137 (mt_fm_within e12) rfl ⟨by decide +kernel, by decide⟩ (Nat.le_of_ble_eq_true rfl) ?_
      refine zg_if_ne (tgt := 35) dd_219_25 (by decide) (fun q13 => ?_) (fun q13 => ?_)
      · replace h := z_f h q13
        refine zg_aload_n dd_219_35 rfl (j := 0) rfl ?_
        refine zg_getR dd_219_36 zl_M_9 zMs_0 rfl zMr_0_0 ?_
        refine zg_iconst dd_219_39 kI_4 ?_
        refine zg_iald (w := (I 1 (4 : Int32).toNatClampNeg)) dd_219_40 zMs_1 (by decide) rfl ?_
        refine zg_istore dd_219_41 (Nat.le_of_ble_eq_true rfl) (lv' := [(4, .inl (I 1 (4 : Int32).toNatClampNeg)), (0, .inr (.inr (some 0))), (1, .inl a1), (2, .inl a2), (3, .inl a3)]) rfl ?_
        refine zg_iload dd_219_43 (j := 0) rfl ?_
        refine zg_bipush dd_219_45 kB_6 ?_
        refine zg_icmp_ne (tgt := 57) dd_219_47 (by decide) (fun q14 => ?_) (fun q14 => ?_)
        · replace h := z_f h q14
          refine zg_aload_n dd_219_57 rfl (j := 1) rfl ?_
          refine zg_getR dd_219_58 zl_M_9 zMs_0 rfl zMr_0_0 ?_
          refine zg_sipush dd_219_61 kS_198 ?_
          refine zg_iconst dd_219_64 kI_3 ?_
          refine zg_iload dd_219_65 (j := 0) rfl ?_
          refine zg_imul dd_219_67 ?_
          refine zg_iadd dd_219_68 ?_
          refine zg_iload_n dd_219_69 rfl (j := 2) rfl ?_
          obtain ⟨g15, h⟩ := z_gd h
          refine zg_iast dd_219_70 zMs_1 g15 ?_
          refine zg_aload_n dd_219_71 rfl (j := 1) rfl ?_
          refine zg_getR dd_219_72 zl_M_9 zMs_0 rfl zMr_0_0 ?_
          refine zg_sipush dd_219_75 kS_198 ?_
          refine zg_iconst dd_219_78 kI_3 ?_
          refine zg_iload dd_219_79 (j := 0) rfl ?_
          refine zg_imul dd_219_81 ?_
          refine zg_iadd dd_219_82 ?_
          refine zg_iconst dd_219_83 kI_1 ?_
          refine zg_iadd dd_219_84 ?_
          refine zg_iload_n dd_219_85 rfl (j := 3) rfl ?_
          obtain ⟨g16, h⟩ := z_gd h
          refine zg_iast dd_219_86 zMs_1 g16 ?_
          refine zg_aload_n dd_219_87 rfl (j := 1) rfl ?_
          refine zg_getR dd_219_88 zl_M_9 zMs_0 rfl zMr_0_0 ?_
          refine zg_sipush dd_219_91 kS_198 ?_
          refine zg_iconst dd_219_94 kI_3 ?_
          refine zg_iload dd_219_95 (j := 0) rfl ?_
          refine zg_imul dd_219_97 ?_
          refine zg_iadd dd_219_98 ?_
          refine zg_iconst dd_219_99 kI_2 ?_
          refine zg_iadd dd_219_100 ?_
          refine zg_iload_n dd_219_101 rfl (j := 4) rfl ?_
          obtain ⟨g17, h⟩ := z_gd h
          refine zg_iast dd_219_102 zMs_1 g17 ?_
          refine zg_aload_n dd_219_103 rfl (j := 1) rfl ?_
          refine zg_getR dd_219_104 zl_M_9 zMs_0 rfl zMr_0_0 ?_
          refine zg_iconst dd_219_107 kI_4 ?_
          refine zg_dup2 dd_219_108 rfl rfl ?_
          refine zg_iald (w := ((zup (zup (zup I 1 ((198 : Int32) + ((3 : Int32) * (I 1 (4 : Int32).toNatClampNeg))).toNatClampNeg a1) 1 (((198 : Int32) + ((3 : Int32) * (I 1 (4 : Int32).toNatClampNeg))) + (1 : Int32)).toNatClampNeg a2) 1 (((198 : Int32) + ((3 : Int32) * (I 1 (4 : Int32).toNatClampNeg))) + (2 : Int32)).toNatClampNeg a3) 1 (4 : Int32).toNatClampNeg)) dd_219_109 zMs_1 (by decide) rfl ?_
          refine zg_iconst dd_219_110 kI_1 ?_
          refine zg_iadd dd_219_111 ?_
          refine zg_iast dd_219_112 zMs_1 (by decide) ?_
          refine zg_iload dd_219_113 (j := 0) rfl ?_
          obtain rfl := Option.some.inj h
          exact zg_iret dd_219_115 rfl
        · replace h := z_t h q14
          refine zg_aload_n dd_219_50 rfl (j := 1) rfl ?_
          refine zg_ldc dd_219_51 zw_1145 ?_
          obtain ⟨r18, e19, h⟩ := z_bd h
          refine zg_invV_i (av := [.inl (-1000004 : Int32)]) (st := []) (n := 1) dd_219_53 ca_142 zw_1140 zw_1142 zv_31 zMs_0 zcl_12 rfl (mt_fm_finding e19) rfl ⟨by decide +kernel, by decide⟩ (Nat.le_of_ble_eq_true rfl) ?_
          obtain rfl := Option.some.inj h
          exact zg_iret dd_219_56 rfl
      · replace h := z_t h q13
        refine zg_aload_n dd_219_28 rfl (j := 0) rfl ?_
        refine zg_ldc dd_219_29 zw_1139 ?_
        obtain ⟨r20, e21, h⟩ := z_bd h
        refine zg_invV_i (av := [.inl (-1000001 : Int32)]) (st := []) (n := 1) dd_219_31 ca_142 zw_1140 zw_1142 zv_31 zMs_0 zcl_12 rfl (mt_fm_finding e21) rfl ⟨by decide +kernel, by decide⟩ (Nat.le_of_ble_eq_true rfl) ?_
        obtain rfl := Option.some.inj h
        exact zg_iret dd_219_34 rfl
/-! TurnedLandModel.thingOf[0, None, None] -/
def fm_thingOf (I : zI) (a1 : Int32) (a2 : Int32) : Option Int32 :=
  z_guard (zb (((198 : Int32) + ((3 : Int32) * a1)) + a2) 448) <|
  some (I 1 (((198 : Int32) + ((3 : Int32) * a1)) + a2).toNatClampNeg)
set_option maxRecDepth 20000 in
theorem mt_fm_thingOf {I : zI} {a1 : Int32} {a2 : Int32} {res : Int32} (h : fm_thingOf I a1 a2 = some res) : zM 1 ym_221 [.inr (.inr (some 0)), .inl a1, .inl a2] (zMs, zMr, I) (some (.inl res)) (zMs, zMr, I) 0 0 := by
  refine zM_of (by decide) (Nat.le_of_ble_eq_true rfl) (lv := [(0, .inr (.inr (some 0))), (1, .inl a1), (2, .inl a2)]) rfl ?_
  rw [fm_thingOf] at h
  refine zg_aload_n dd_221_0 rfl (j := 0) rfl ?_
  refine zg_getR dd_221_1 zl_M_9 zMs_0 rfl zMr_0_0 ?_
  refine zg_sipush dd_221_4 kS_198 ?_
  refine zg_iconst dd_221_7 kI_3 ?_
  refine zg_iload_n dd_221_8 rfl (j := 1) rfl ?_
  refine zg_imul dd_221_9 ?_
  refine zg_iadd dd_221_10 ?_
  refine zg_iload_n dd_221_11 rfl (j := 2) rfl ?_
  refine zg_iadd dd_221_12 ?_
  obtain ⟨g1, h⟩ := z_gd h
  refine zg_iald (w := (I 1 (((198 : Int32) + ((3 : Int32) * a1)) + a2).toNatClampNeg)) dd_221_13 zMs_1 g1 rfl ?_
  obtain rfl := Option.some.inj h
  exact zg_iret dd_221_14 rfl
/-! TurnedLandModel.priceOf[0, None, None, None] -/
def fm_priceOf (I : zI) (a1 : Int32) (a2 : Int32) (a3 : Int32) : Option (Int32 × zI) :=
  (fm_thingOf I a1 (1 : Int32)).bind fun r1 =>
  (fm_thingOf I a1 (2 : Int32)).bind fun r3 =>
  if a2 = a3 then
    (fm_given I (1 : Int32) r1 r3 (1 : Int32) (0 : Int32)).bind fun r8 =>
    some (r8.1, r8.2)
  else
    (fm_given I (1 : Int32) r1 r3 (0 : Int32) (0 : Int32)).bind fun r6 =>
    some (r6.1, r6.2)
set_option maxRecDepth 20000 in
theorem mt_fm_priceOf {I : zI} {a1 : Int32} {a2 : Int32} {a3 : Int32} {res : (Int32 × zI)} (h : fm_priceOf I a1 a2 a3 = some res) : zM 4 ym_222 [.inr (.inr (some 0)), .inl a1, .inl a2, .inl a3] (zMs, zMr, I) (some (.inl res.1)) (zMs, zMr, res.2) 0 0 := by
  refine zM_of (by decide) (Nat.le_of_ble_eq_true rfl) (lv := [(0, .inr (.inr (some 0))), (1, .inl a1), (2, .inl a2), (3, .inl a3)]) rfl ?_
  rw [fm_priceOf] at h
  refine zg_aload_n dd_222_0 rfl (j := 0) rfl ?_
  refine zg_iconst dd_222_1 kI_1 ?_
  refine zg_aload_n dd_222_2 rfl (j := 0) rfl ?_
  refine zg_iload_n dd_222_3 rfl (j := 1) rfl ?_
  refine zg_iconst dd_222_4 kI_1 ?_
  obtain ⟨r1, e2, h⟩ := z_bd h
  refine zg_invV_i (av := [.inl a1, .inl (1 : Int32)]) (st := [.inl (1 : Int32), .inr (.inr (some 0))]) (n := 2) dd_222_5 ca_221 zw_1482 zw_1484 zv_71 zMs_0 zcl_12 rfl (mt_fm_thingOf e2) rfl ⟨by decide +kernel, by decide⟩ (Nat.le_of_ble_eq_true rfl) ?_
  refine zg_aload_n dd_222_8 rfl (j := 0) rfl ?_
  refine zg_iload_n dd_222_9 rfl (j := 1) rfl ?_
  refine zg_iconst dd_222_10 kI_2 ?_
  obtain ⟨r3, e4, h⟩ := z_bd h
  refine zg_invV_i (av := [.inl a1, .inl (2 : Int32)]) (st := [.inl r1, .inl (1 : Int32), .inr (.inr (some 0))]) (n := 2) dd_222_11 ca_221 zw_1482 zw_1484 zv_71 zMs_0 zcl_12 rfl (mt_fm_thingOf e4) rfl ⟨by decide +kernel, by decide⟩ (Nat.le_of_ble_eq_true rfl) ?_
  refine zg_iload_n dd_222_14 rfl (j := 2) rfl ?_
  refine zg_iload_n dd_222_15 rfl (j := 3) rfl ?_
  refine zg_icmp_ne (tgt := 23) dd_222_16 (by decide) (fun q5 => ?_) (fun q5 => ?_)
  · replace h := z_f h q5
    refine zg_iconst dd_222_23 kI_0 ?_
    refine zg_iconst dd_222_24 kI_0 ?_
    obtain ⟨r6, e7, h⟩ := z_bd h
    refine zg_invV_i (av := [.inl (1 : Int32), .inl r1, .inl r3, .inl (0 : Int32), .inl (0 : Int32)]) (st := []) (n := 5) dd_222_25 ca_194 zw_1374 zw_1376 zv_62 zMs_0 zcl_12 rfl (mt_fm_given e7) rfl ⟨by decide +kernel, by decide⟩ (Nat.le_of_ble_eq_true rfl) ?_
    obtain rfl := Option.some.inj h
    exact zg_iret dd_222_28 rfl
  · replace h := z_t h q5
    refine zg_iconst dd_222_19 kI_1 ?_
    refine zg_goto (tgt := 24) dd_222_20 (by decide) ?_
    refine zg_iconst dd_222_24 kI_0 ?_
    obtain ⟨r8, e9, h⟩ := z_bd h
    refine zg_invV_i (av := [.inl (1 : Int32), .inl r1, .inl r3, .inl (1 : Int32), .inl (0 : Int32)]) (st := []) (n := 5) dd_222_25 ca_194 zw_1374 zw_1376 zv_62 zMs_0 zcl_12 rfl (mt_fm_given e9) rfl ⟨by decide +kernel, by decide⟩ (Nat.le_of_ble_eq_true rfl) ?_
    obtain rfl := Option.some.inj h
    exact zg_iret dd_222_28 rfl
/-! TurnedLandModel.thingIs(0, None, None) -/
def fm_thingIs (I : zI) (a1 : Int32) (a2 : Int32) : Option (Int32 × zI) :=
  (fm_is I a1 (4 : Int32)).bind fun r1 =>
  if r1 = 0 then
    (fm_finding I (-1000001 : Int32)).bind fun r4 =>
    some (r4.1, r4.2)
  else
    (fm_within I a2 (0 : Int32) (4 : Int32)).bind fun r6 =>
    if r6 = 0 then
      (fm_finding I (-1000001 : Int32)).bind fun r16 =>
      some (r16.1, r16.2)
    else
      if (3 : Int32) ≤ a2 then
        (fm_thingOf I a1 (0 : Int32)).bind fun r10 =>
        (fm_priceOf I a1 (r10 % (2 : Int32)) (a2 - (3 : Int32))).bind fun r12 =>
        some (r12.1, r12.2)
      else
        (fm_thingOf I a1 a2).bind fun r14 =>
        some (r14, I)
set_option maxRecDepth 20000 in
theorem mt_fm_thingIs {I : zI} {a1 : Int32} {a2 : Int32} {res : (Int32 × zI)} (h : fm_thingIs I a1 a2 = some res) : zM 5 ym_220 [.inr (.inr (some 0)), .inl a1, .inl a2] (zMs, zMr, I) (some (.inl res.1)) (zMs, zMr, res.2) 0 0 := by
  refine zM_of (by decide) (Nat.le_of_ble_eq_true rfl) (lv := [(0, .inr (.inr (some 0))), (1, .inl a1), (2, .inl a2)]) rfl ?_
  rw [fm_thingIs] at h
  refine zg_aload_n dd_220_0 rfl (j := 0) rfl ?_
  refine zg_iload_n dd_220_1 rfl (j := 1) rfl ?_
  refine zg_iconst dd_220_2 kI_4 ?_
  obtain ⟨r1, e2, h⟩ := z_bd h
  refine zg_invV_i (av := [.inl a1, .inl (4 : Int32)]) (st := []) (n := 2) dd_220_3 ca_144 zw_1150 zw_1152 zv_32 zMs_0 zcl_12 rfl (mt_fm_is e2) rfl ⟨by decide +kernel, by decide⟩ (Nat.le_of_ble_eq_true rfl) ?_
  refine zg_if_eq (tgt := 18) dd_220_6 (by decide) (fun q3 => ?_) (fun q3 => ?_)
  · replace h := z_t h q3
    refine zg_aload_n dd_220_18 rfl (j := 0) rfl ?_
    refine zg_ldc dd_220_19 zw_1139 ?_
    obtain ⟨r4, e5, h⟩ := z_bd h
    refine zg_invV_i (av := [.inl (-1000001 : Int32)]) (st := []) (n := 1) dd_220_21 ca_142 zw_1140 zw_1142 zv_31 zMs_0 zcl_12 rfl (mt_fm_finding e5) rfl ⟨by decide +kernel, by decide⟩ (Nat.le_of_ble_eq_true rfl) ?_
    obtain rfl := Option.some.inj h
    exact zg_iret dd_220_24 rfl
  · replace h := z_f h q3
    refine zg_iload_n dd_220_9 rfl (j := 2) rfl ?_
    refine zg_iconst dd_220_10 kI_0 ?_
    refine zg_iconst dd_220_11 kI_4 ?_
    obtain ⟨r6, e7, h⟩ := z_bd h
    refine zg_invS_i (av := [.inl a2, .inl (0 : Int32), .inl (4 : Int32)]) (st := []) (n := 3) dd_220_12 ca_141 zw_1136 zw_1137 (mt_fm_within e7) rfl ⟨by decide +kernel, by decide⟩ (Nat.le_of_ble_eq_true rfl) ?_
    refine zg_if_ne (tgt := 25) dd_220_15 (by decide) (fun q8 => ?_) (fun q8 => ?_)
    · replace h := z_f h q8
      refine zg_iload_n dd_220_25 rfl (j := 2) rfl ?_
      refine zg_iconst dd_220_26 kI_3 ?_
      refine zg_icmp_ge (tgt := 39) dd_220_27 (by decide) (fun q9 => ?_) (fun q9 => ?_)
      · replace h := z_t h q9
        refine zg_aload_n dd_220_39 rfl (j := 0) rfl ?_
        refine zg_iload_n dd_220_40 rfl (j := 1) rfl ?_
        refine zg_aload_n dd_220_41 rfl (j := 0) rfl ?_
        refine zg_iload_n dd_220_42 rfl (j := 1) rfl ?_
        refine zg_iconst dd_220_43 kI_0 ?_
        obtain ⟨r10, e11, h⟩ := z_bd h
        refine zg_invV_i (av := [.inl a1, .inl (0 : Int32)]) (st := [.inl a1, .inr (.inr (some 0))]) (n := 2) dd_220_44 ca_221 zw_1482 zw_1484 zv_71 zMs_0 zcl_12 rfl (mt_fm_thingOf e11) rfl ⟨by decide +kernel, by decide⟩ (Nat.le_of_ble_eq_true rfl) ?_
        refine zg_iconst dd_220_47 kI_2 ?_
        refine zg_irem dd_220_48 (by decide) ?_
        refine zg_iload_n dd_220_49 rfl (j := 2) rfl ?_
        refine zg_iconst dd_220_50 kI_3 ?_
        refine zg_isub dd_220_51 ?_
        obtain ⟨r12, e13, h⟩ := z_bd h
        refine zg_invV_i (av := [.inl a1, .inl (r10 % (2 : Int32)), .inl (a2 - (3 : Int32))]) (st := []) (n := 3) dd_220_52 ca_222 zw_1486 zw_1488 zv_72 zMs_0 zcl_12 rfl (mt_fm_priceOf e13) rfl ⟨by decide +kernel, by decide⟩ (Nat.le_of_ble_eq_true rfl) ?_
        obtain rfl := Option.some.inj h
        exact zg_iret dd_220_55 rfl
      · replace h := z_f h q9
        refine zg_aload_n dd_220_30 rfl (j := 0) rfl ?_
        refine zg_iload_n dd_220_31 rfl (j := 1) rfl ?_
        refine zg_iload_n dd_220_32 rfl (j := 2) rfl ?_
        obtain ⟨r14, e15, h⟩ := z_bd h
        refine zg_invV_i (av := [.inl a1, .inl a2]) (st := []) (n := 2) dd_220_33 ca_221 zw_1482 zw_1484 zv_71 zMs_0 zcl_12 rfl (mt_fm_thingOf e15) rfl ⟨by decide +kernel, by decide⟩ (Nat.le_of_ble_eq_true rfl) ?_
        refine zg_goto (tgt := 55) dd_220_36 (by decide) ?_
        obtain rfl := Option.some.inj h
        exact zg_iret dd_220_55 rfl
    · replace h := z_t h q8
      refine zg_aload_n dd_220_18 rfl (j := 0) rfl ?_
      refine zg_ldc dd_220_19 zw_1139 ?_
      obtain ⟨r16, e17, h⟩ := z_bd h
      refine zg_invV_i (av := [.inl (-1000001 : Int32)]) (st := []) (n := 1) dd_220_21 ca_142 zw_1140 zw_1142 zv_31 zMs_0 zcl_12 rfl (mt_fm_finding e17) rfl ⟨by decide +kernel, by decide⟩ (Nat.le_of_ble_eq_true rfl) ?_
      obtain rfl := Option.some.inj h
      exact zg_iret dd_220_24 rfl
/-! TurnedLandModel.bring(0, None) -/
def fm_bring_L32 : Nat → Int32 → Int32 → Int32 → Int32 → Int32 → zI → Option (Int32 × zI)
  | 0, _, _, _, _, _, _ => none
  | nf + 1, v1, v2, v3, v4, v5, I =>
    if (I 1 (4 : Int32).toNatClampNeg) ≤ v5 then
      if 0 ≤ v3 then
        some (v3, I)
      else
        (fm_finding I (-1000002 : Int32)).bind fun r8 =>
        some (r8.1, r8.2)
    else
      (fm_thingOf I v5 (0 : Int32)).bind fun r10 =>
      (fm_findSoonest I r10).bind fun r12 =>
      z_guard (zb (((2 : Int32) * v2) + (1 : Int32)) 16) <|
      z_guard (zb ((2 : Int32) * v2) 16) <|
      if (r12 9 ((2 : Int32) * v2).toNatClampNeg) ≤ (r12 9 (((2 : Int32) * v2) + (1 : Int32)).toNatClampNeg) then
        z_guard (zb (((2 : Int32) * v2) + (0 : Int32)) 16) <|
        (fm_whereIs r12 v1).bind fun r18 =>
        (fm_priceOf r12 v5 (0 : Int32) (r18 % (2 : Int32))).bind fun r20 =>
        if (100000000 : Int32) ≤ (r12 9 (((2 : Int32) * v2) + (0 : Int32)).toNatClampNeg) then
          fm_bring_L32 nf v1 v2 v3 v4 (v5 + (1 : Int32)) r20.2
        else
          if v3 < 0 then
            fm_bring_L32 nf v1 v2 v5 (r20.1 - (r12 9 (((2 : Int32) * v2) + (0 : Int32)).toNatClampNeg)) (v5 + (1 : Int32)) r20.2
          else
            if (r20.1 - (r12 9 (((2 : Int32) * v2) + (0 : Int32)).toNatClampNeg)) ≤ v4 then
              fm_bring_L32 nf v1 v2 v3 v4 (v5 + (1 : Int32)) r20.2
            else
              fm_bring_L32 nf v1 v2 v5 (r20.1 - (r12 9 (((2 : Int32) * v2) + (0 : Int32)).toNatClampNeg)) (v5 + (1 : Int32)) r20.2
      else
        (fm_whereIs r12 v1).bind fun r25 =>
        (fm_priceOf r12 v5 (1 : Int32) (r25 % (2 : Int32))).bind fun r27 =>
        if (100000000 : Int32) ≤ (r12 9 (((2 : Int32) * v2) + (1 : Int32)).toNatClampNeg) then
          fm_bring_L32 nf v1 v2 v3 v4 (v5 + (1 : Int32)) r27.2
        else
          if v3 < 0 then
            fm_bring_L32 nf v1 v2 v5 (r27.1 - (r12 9 (((2 : Int32) * v2) + (1 : Int32)).toNatClampNeg)) (v5 + (1 : Int32)) r27.2
          else
            if (r27.1 - (r12 9 (((2 : Int32) * v2) + (1 : Int32)).toNatClampNeg)) ≤ v4 then
              fm_bring_L32 nf v1 v2 v3 v4 (v5 + (1 : Int32)) r27.2
            else
              fm_bring_L32 nf v1 v2 v5 (r27.1 - (r12 9 (((2 : Int32) * v2) + (1 : Int32)).toNatClampNeg)) (v5 + (1 : Int32)) r27.2
def fm_bring (I : zI) (a1 : Int32) : Option (Int32 × zI) :=
  (fm_is I a1 (3 : Int32)).bind fun r1 =>
  if r1 = 0 then
    (fm_finding I (-1000001 : Int32)).bind fun r32 =>
    some (r32.1, r32.2)
  else
    (fm_whereIs I a1).bind fun r4 =>
    fm_bring_L32
      100 a1 (r4 / (2 : Int32)) (-1 : Int32) (0 : Int32) (0 : Int32) I
set_option maxRecDepth 20000 in
theorem lt_fm_bring_L32 {res : (Int32 × zI)} : ∀ (nf : Nat) (v1 : Int32) (v2 : Int32) (v3 : Int32) (v4 : Int32) (v5 : Int32) (I : zI), fm_bring_L32 nf v1 v2 v3 v4 v5 I = some res → zG 6 ym_223 0 0 (some (.inl res.1)) (zMs, zMr, res.2) zMs.length 32 [(0, .inr (.inr (some 0))), (1, .inl v1), (2, .inl v2), (3, .inl v3), (4, .inl v4), (5, .inl v5)] [] (zMs, zMr, I) 0 0 := by
  intro nf
  induction nf with
  | zero =>
    intro v1 v2 v3 v4 v5 I h
    have h2 : none = some res := h
    cases h2
  | succ nf ih =>
    intro v1 v2 v3 v4 v5 I h
    rw [fm_bring_L32] at h
    refine zg_iload dd_223_32 (j := 5) rfl ?_
    refine zg_aload_n dd_223_34 rfl (j := 0) rfl ?_
    refine zg_getR dd_223_35 zl_M_9 zMs_0 rfl zMr_0_0 ?_
    refine zg_iconst dd_223_38 kI_4 ?_
    refine zg_iald (w := (I 1 (4 : Int32).toNatClampNeg)) dd_223_39 zMs_1 (by decide) rfl ?_
    refine zg_icmp_ge (tgt := 146) dd_223_40 (by decide) (fun q6 => ?_) (fun q6 => ?_)
    · replace h := z_t h q6
      refine zg_iload_n dd_223_146 rfl (j := 3) rfl ?_
      refine zg_if_ge (tgt := 159) dd_223_147 (by decide) (fun q7 => ?_) (fun q7 => ?_)
      · replace h := z_t h q7
        refine zg_iload_n dd_223_159 rfl (j := 3) rfl ?_
        obtain rfl := Option.some.inj h
        exact zg_iret dd_223_160 rfl
      · replace h := z_f h q7
        refine zg_aload_n dd_223_150 rfl (j := 0) rfl ?_
        refine zg_ldc dd_223_151 zw_1199 ?_
        obtain ⟨r8, e9, h⟩ := z_bd h
        refine zg_invV_i (av := [.inl (-1000002 : Int32)]) (st := []) (n := 1) dd_223_153 ca_142 zw_1140 zw_1142 zv_31 zMs_0 zcl_12 rfl (mt_fm_finding e9) rfl ⟨by decide +kernel, by decide⟩ (Nat.le_of_ble_eq_true rfl) ?_
        refine zg_goto (tgt := 160) dd_223_156 (by decide) ?_
        obtain rfl := Option.some.inj h
        exact zg_iret dd_223_160 rfl
    · replace h := z_f h q6
      refine zg_aload_n dd_223_43 rfl (j := 0) rfl ?_
      refine zg_aload_n dd_223_44 rfl (j := 0) rfl ?_
      refine zg_iload dd_223_45 (j := 5) rfl ?_
      refine zg_iconst dd_223_47 kI_0 ?_
      obtain ⟨r10, e11, h⟩ := z_bd h
      refine zg_invV_i (av := [.inl v5, .inl (0 : Int32)]) (st := [.inr (.inr (some 0))]) (n := 2) dd_223_48 ca_221 zw_1482 zw_1484 zv_71 zMs_0 zcl_12 rfl (mt_fm_thingOf e11) rfl ⟨by decide +kernel, by decide⟩ (Nat.le_of_ble_eq_true rfl) ?_
      obtain ⟨r12, e13, h⟩ := z_bd h
      refine zg_invV_v (av := [.inl r10]) (st := []) (n := 1) dd_223_51 ca_192 zw_1365 zw_1367 zv_60 zMs_0 zcl_12 rfl (mt_fm_findSoonest e13) rfl ⟨by decide +kernel, by decide⟩ (Nat.le_of_ble_eq_true rfl) ?_
      refine zg_aload_n dd_223_54 rfl (j := 0) rfl ?_
      refine zg_getR dd_223_55 zl_M_41 zMs_0 rfl zMr_0_16 ?_
      refine zg_iconst dd_223_58 kI_2 ?_
      refine zg_iload_n dd_223_59 rfl (j := 2) rfl ?_
      refine zg_imul dd_223_60 ?_
      refine zg_iconst dd_223_61 kI_1 ?_
      refine zg_iadd dd_223_62 ?_
      obtain ⟨g14, h⟩ := z_gd h
      refine zg_iald (w := (r12 9 (((2 : Int32) * v2) + (1 : Int32)).toNatClampNeg)) dd_223_63 zMs_9 g14 rfl ?_
      refine zg_aload_n dd_223_64 rfl (j := 0) rfl ?_
      refine zg_getR dd_223_65 zl_M_41 zMs_0 rfl zMr_0_16 ?_
      refine zg_iconst dd_223_68 kI_2 ?_
      refine zg_iload_n dd_223_69 rfl (j := 2) rfl ?_
      refine zg_imul dd_223_70 ?_
      obtain ⟨g15, h⟩ := z_gd h
      refine zg_iald (w := (r12 9 ((2 : Int32) * v2).toNatClampNeg)) dd_223_71 zMs_9 g15 rfl ?_
      refine zg_icmp_ge (tgt := 79) dd_223_72 (by decide) (fun q16 => ?_) (fun q16 => ?_)
      · replace h := z_t h q16
        refine zg_iconst dd_223_79 kI_0 ?_
        refine zg_istore dd_223_80 (Nat.le_of_ble_eq_true rfl) (lv' := [(6, .inl (0 : Int32)), (0, .inr (.inr (some 0))), (1, .inl v1), (2, .inl v2), (3, .inl v3), (4, .inl v4), (5, .inl v5)]) rfl ?_
        refine zg_aload_n dd_223_82 rfl (j := 1) rfl ?_
        refine zg_getR dd_223_83 zl_M_41 zMs_0 rfl zMr_0_16 ?_
        refine zg_iconst dd_223_86 kI_2 ?_
        refine zg_iload_n dd_223_87 rfl (j := 3) rfl ?_
        refine zg_imul dd_223_88 ?_
        refine zg_iload dd_223_89 (j := 0) rfl ?_
        refine zg_iadd dd_223_91 ?_
        obtain ⟨g17, h⟩ := z_gd h
        refine zg_iald (w := (r12 9 (((2 : Int32) * v2) + (0 : Int32)).toNatClampNeg)) dd_223_92 zMs_9 g17 rfl ?_
        refine zg_istore dd_223_93 (Nat.le_of_ble_eq_true rfl) (lv' := [(7, .inl (r12 9 (((2 : Int32) * v2) + (0 : Int32)).toNatClampNeg)), (6, .inl (0 : Int32)), (0, .inr (.inr (some 0))), (1, .inl v1), (2, .inl v2), (3, .inl v3), (4, .inl v4), (5, .inl v5)]) rfl ?_
        refine zg_aload_n dd_223_95 rfl (j := 2) rfl ?_
        refine zg_iload dd_223_96 (j := 7) rfl ?_
        refine zg_iload dd_223_98 (j := 1) rfl ?_
        refine zg_aload_n dd_223_100 rfl (j := 2) rfl ?_
        refine zg_iload_n dd_223_101 rfl (j := 3) rfl ?_
        obtain ⟨r18, e19, h⟩ := z_bd h
        refine zg_invV_i (av := [.inl v1]) (st := [.inl (0 : Int32), .inl v5, .inr (.inr (some 0))]) (n := 1) dd_223_102 ca_215 zw_1456 zw_1458 zv_69 zMs_0 zcl_12 rfl (mt_fm_whereIs e19) rfl ⟨by decide +kernel, by decide⟩ (Nat.le_of_ble_eq_true rfl) ?_
        refine zg_iconst dd_223_105 kI_2 ?_
        refine zg_irem dd_223_106 (by decide) ?_
        obtain ⟨r20, e21, h⟩ := z_bd h
        refine zg_invV_i (av := [.inl v5, .inl (0 : Int32), .inl (r18 % (2 : Int32))]) (st := []) (n := 3) dd_223_107 ca_222 zw_1486 zw_1488 zv_72 zMs_0 zcl_12 rfl (mt_fm_priceOf e21) rfl ⟨by decide +kernel, by decide⟩ (Nat.le_of_ble_eq_true rfl) ?_
        refine zg_iload dd_223_110 (j := 0) rfl ?_
        refine zg_isub dd_223_112 ?_
        refine zg_istore dd_223_113 (Nat.le_of_ble_eq_true rfl) (lv' := [(8, .inl (r20.1 - (r12 9 (((2 : Int32) * v2) + (0 : Int32)).toNatClampNeg))), (7, .inl (r12 9 (((2 : Int32) * v2) + (0 : Int32)).toNatClampNeg)), (6, .inl (0 : Int32)), (0, .inr (.inr (some 0))), (1, .inl v1), (2, .inl v2), (3, .inl v3), (4, .inl v4), (5, .inl v5)]) rfl ?_
        refine zg_iload dd_223_115 (j := 1) rfl ?_
        refine zg_ldc dd_223_117 zw_1369 ?_
        refine zg_icmp_ge (tgt := 140) dd_223_119 (by decide) (fun q22 => ?_) (fun q22 => ?_)
        · replace h := z_t h q22
          refine zg_iinc dd_223_140 (j := 8) rfl (v := (v5 + (1 : Int32))) (by rw [kI_1]) (Nat.le_of_ble_eq_true rfl) (lv' := [(5, .inl (v5 + (1 : Int32))), (8, .inl (r20.1 - (r12 9 (((2 : Int32) * v2) + (0 : Int32)).toNatClampNeg))), (7, .inl (r12 9 (((2 : Int32) * v2) + (0 : Int32)).toNatClampNeg)), (6, .inl (0 : Int32)), (0, .inr (.inr (some 0))), (1, .inl v1), (2, .inl v2), (3, .inl v3), (4, .inl v4)]) rfl ?_
          refine zg_goto (tgt := 32) dd_223_143 (by decide) ?_
          refine zg_sub [4, 5, 6, 7, 8, 0] rfl ?_
          exact ih _ _ _ _ _ _ h
        · replace h := z_f h q22
          refine zg_iload_n dd_223_122 rfl (j := 6) rfl ?_
          refine zg_if_lt (tgt := 133) dd_223_123 (by decide) (fun q23 => ?_) (fun q23 => ?_)
          · replace h := z_t h q23
            refine zg_iload dd_223_133 (j := 8) rfl ?_
            refine zg_istore_n dd_223_135 rfl (Nat.le_of_ble_eq_true rfl) (lv' := [(3, .inl v5), (8, .inl (r20.1 - (r12 9 (((2 : Int32) * v2) + (0 : Int32)).toNatClampNeg))), (7, .inl (r12 9 (((2 : Int32) * v2) + (0 : Int32)).toNatClampNeg)), (6, .inl (0 : Int32)), (0, .inr (.inr (some 0))), (1, .inl v1), (2, .inl v2), (4, .inl v4), (5, .inl v5)]) rfl ?_
            refine zg_iload dd_223_136 (j := 1) rfl ?_
            refine zg_istore dd_223_138 (Nat.le_of_ble_eq_true rfl) (lv' := [(4, .inl (r20.1 - (r12 9 (((2 : Int32) * v2) + (0 : Int32)).toNatClampNeg))), (3, .inl v5), (8, .inl (r20.1 - (r12 9 (((2 : Int32) * v2) + (0 : Int32)).toNatClampNeg))), (7, .inl (r12 9 (((2 : Int32) * v2) + (0 : Int32)).toNatClampNeg)), (6, .inl (0 : Int32)), (0, .inr (.inr (some 0))), (1, .inl v1), (2, .inl v2), (5, .inl v5)]) rfl ?_
            refine zg_iinc dd_223_140 (j := 8) rfl (v := (v5 + (1 : Int32))) (by rw [kI_1]) (Nat.le_of_ble_eq_true rfl) (lv' := [(5, .inl (v5 + (1 : Int32))), (4, .inl (r20.1 - (r12 9 (((2 : Int32) * v2) + (0 : Int32)).toNatClampNeg))), (3, .inl v5), (8, .inl (r20.1 - (r12 9 (((2 : Int32) * v2) + (0 : Int32)).toNatClampNeg))), (7, .inl (r12 9 (((2 : Int32) * v2) + (0 : Int32)).toNatClampNeg)), (6, .inl (0 : Int32)), (0, .inr (.inr (some 0))), (1, .inl v1), (2, .inl v2)]) rfl ?_
            refine zg_goto (tgt := 32) dd_223_143 (by decide) ?_
            refine zg_sub [6, 7, 8, 2, 1, 0] rfl ?_
            exact ih _ _ _ _ _ _ h
          · replace h := z_f h q23
            refine zg_iload dd_223_126 (j := 0) rfl ?_
            refine zg_iload dd_223_128 (j := 7) rfl ?_
            refine zg_icmp_le (tgt := 140) dd_223_130 (by decide) (fun q24 => ?_) (fun q24 => ?_)
            · replace h := z_t h q24
              refine zg_iinc dd_223_140 (j := 8) rfl (v := (v5 + (1 : Int32))) (by rw [kI_1]) (Nat.le_of_ble_eq_true rfl) (lv' := [(5, .inl (v5 + (1 : Int32))), (8, .inl (r20.1 - (r12 9 (((2 : Int32) * v2) + (0 : Int32)).toNatClampNeg))), (7, .inl (r12 9 (((2 : Int32) * v2) + (0 : Int32)).toNatClampNeg)), (6, .inl (0 : Int32)), (0, .inr (.inr (some 0))), (1, .inl v1), (2, .inl v2), (3, .inl v3), (4, .inl v4)]) rfl ?_
              refine zg_goto (tgt := 32) dd_223_143 (by decide) ?_
              refine zg_sub [4, 5, 6, 7, 8, 0] rfl ?_
              exact ih _ _ _ _ _ _ h
            · replace h := z_f h q24
              refine zg_iload dd_223_133 (j := 8) rfl ?_
              refine zg_istore_n dd_223_135 rfl (Nat.le_of_ble_eq_true rfl) (lv' := [(3, .inl v5), (8, .inl (r20.1 - (r12 9 (((2 : Int32) * v2) + (0 : Int32)).toNatClampNeg))), (7, .inl (r12 9 (((2 : Int32) * v2) + (0 : Int32)).toNatClampNeg)), (6, .inl (0 : Int32)), (0, .inr (.inr (some 0))), (1, .inl v1), (2, .inl v2), (4, .inl v4), (5, .inl v5)]) rfl ?_
              refine zg_iload dd_223_136 (j := 1) rfl ?_
              refine zg_istore dd_223_138 (Nat.le_of_ble_eq_true rfl) (lv' := [(4, .inl (r20.1 - (r12 9 (((2 : Int32) * v2) + (0 : Int32)).toNatClampNeg))), (3, .inl v5), (8, .inl (r20.1 - (r12 9 (((2 : Int32) * v2) + (0 : Int32)).toNatClampNeg))), (7, .inl (r12 9 (((2 : Int32) * v2) + (0 : Int32)).toNatClampNeg)), (6, .inl (0 : Int32)), (0, .inr (.inr (some 0))), (1, .inl v1), (2, .inl v2), (5, .inl v5)]) rfl ?_
              refine zg_iinc dd_223_140 (j := 8) rfl (v := (v5 + (1 : Int32))) (by rw [kI_1]) (Nat.le_of_ble_eq_true rfl) (lv' := [(5, .inl (v5 + (1 : Int32))), (4, .inl (r20.1 - (r12 9 (((2 : Int32) * v2) + (0 : Int32)).toNatClampNeg))), (3, .inl v5), (8, .inl (r20.1 - (r12 9 (((2 : Int32) * v2) + (0 : Int32)).toNatClampNeg))), (7, .inl (r12 9 (((2 : Int32) * v2) + (0 : Int32)).toNatClampNeg)), (6, .inl (0 : Int32)), (0, .inr (.inr (some 0))), (1, .inl v1), (2, .inl v2)]) rfl ?_
              refine zg_goto (tgt := 32) dd_223_143 (by decide) ?_
              refine zg_sub [6, 7, 8, 2, 1, 0] rfl ?_
              exact ih _ _ _ _ _ _ h
      · replace h := z_f h q16
        refine zg_iconst dd_223_75 kI_1 ?_
        refine zg_goto (tgt := 80) dd_223_76 (by decide) ?_
        refine zg_istore dd_223_80 (Nat.le_of_ble_eq_true rfl) (lv' := [(6, .inl (1 : Int32)), (0, .inr (.inr (some 0))), (1, .inl v1), (2, .inl v2), (3, .inl v3), (4, .inl v4), (5, .inl v5)]) rfl ?_
        refine zg_aload_n dd_223_82 rfl (j := 1) rfl ?_
        refine zg_getR dd_223_83 zl_M_41 zMs_0 rfl zMr_0_16 ?_
        refine zg_iconst dd_223_86 kI_2 ?_
        refine zg_iload_n dd_223_87 rfl (j := 3) rfl ?_
        refine zg_imul dd_223_88 ?_
        refine zg_iload dd_223_89 (j := 0) rfl ?_
        refine zg_iadd dd_223_91 ?_
        refine zg_iald (w := (r12 9 (((2 : Int32) * v2) + (1 : Int32)).toNatClampNeg)) dd_223_92 zMs_9 g14 rfl ?_
        refine zg_istore dd_223_93 (Nat.le_of_ble_eq_true rfl) (lv' := [(7, .inl (r12 9 (((2 : Int32) * v2) + (1 : Int32)).toNatClampNeg)), (6, .inl (1 : Int32)), (0, .inr (.inr (some 0))), (1, .inl v1), (2, .inl v2), (3, .inl v3), (4, .inl v4), (5, .inl v5)]) rfl ?_
        refine zg_aload_n dd_223_95 rfl (j := 2) rfl ?_
        refine zg_iload dd_223_96 (j := 7) rfl ?_
        refine zg_iload dd_223_98 (j := 1) rfl ?_
        refine zg_aload_n dd_223_100 rfl (j := 2) rfl ?_
        refine zg_iload_n dd_223_101 rfl (j := 3) rfl ?_
        obtain ⟨r25, e26, h⟩ := z_bd h
        refine zg_invV_i (av := [.inl v1]) (st := [.inl (1 : Int32), .inl v5, .inr (.inr (some 0))]) (n := 1) dd_223_102 ca_215 zw_1456 zw_1458 zv_69 zMs_0 zcl_12 rfl (mt_fm_whereIs e26) rfl ⟨by decide +kernel, by decide⟩ (Nat.le_of_ble_eq_true rfl) ?_
        refine zg_iconst dd_223_105 kI_2 ?_
        refine zg_irem dd_223_106 (by decide) ?_
        obtain ⟨r27, e28, h⟩ := z_bd h
        refine zg_invV_i (av := [.inl v5, .inl (1 : Int32), .inl (r25 % (2 : Int32))]) (st := []) (n := 3) dd_223_107 ca_222 zw_1486 zw_1488 zv_72 zMs_0 zcl_12 rfl (mt_fm_priceOf e28) rfl ⟨by decide +kernel, by decide⟩ (Nat.le_of_ble_eq_true rfl) ?_
        refine zg_iload dd_223_110 (j := 0) rfl ?_
        refine zg_isub dd_223_112 ?_
        refine zg_istore dd_223_113 (Nat.le_of_ble_eq_true rfl) (lv' := [(8, .inl (r27.1 - (r12 9 (((2 : Int32) * v2) + (1 : Int32)).toNatClampNeg))), (7, .inl (r12 9 (((2 : Int32) * v2) + (1 : Int32)).toNatClampNeg)), (6, .inl (1 : Int32)), (0, .inr (.inr (some 0))), (1, .inl v1), (2, .inl v2), (3, .inl v3), (4, .inl v4), (5, .inl v5)]) rfl ?_
        refine zg_iload dd_223_115 (j := 1) rfl ?_
        refine zg_ldc dd_223_117 zw_1369 ?_
        refine zg_icmp_ge (tgt := 140) dd_223_119 (by decide) (fun q29 => ?_) (fun q29 => ?_)
        · replace h := z_t h q29
          refine zg_iinc dd_223_140 (j := 8) rfl (v := (v5 + (1 : Int32))) (by rw [kI_1]) (Nat.le_of_ble_eq_true rfl) (lv' := [(5, .inl (v5 + (1 : Int32))), (8, .inl (r27.1 - (r12 9 (((2 : Int32) * v2) + (1 : Int32)).toNatClampNeg))), (7, .inl (r12 9 (((2 : Int32) * v2) + (1 : Int32)).toNatClampNeg)), (6, .inl (1 : Int32)), (0, .inr (.inr (some 0))), (1, .inl v1), (2, .inl v2), (3, .inl v3), (4, .inl v4)]) rfl ?_
          refine zg_goto (tgt := 32) dd_223_143 (by decide) ?_
          refine zg_sub [4, 5, 6, 7, 8, 0] rfl ?_
          exact ih _ _ _ _ _ _ h
        · replace h := z_f h q29
          refine zg_iload_n dd_223_122 rfl (j := 6) rfl ?_
          refine zg_if_lt (tgt := 133) dd_223_123 (by decide) (fun q30 => ?_) (fun q30 => ?_)
          · replace h := z_t h q30
            refine zg_iload dd_223_133 (j := 8) rfl ?_
            refine zg_istore_n dd_223_135 rfl (Nat.le_of_ble_eq_true rfl) (lv' := [(3, .inl v5), (8, .inl (r27.1 - (r12 9 (((2 : Int32) * v2) + (1 : Int32)).toNatClampNeg))), (7, .inl (r12 9 (((2 : Int32) * v2) + (1 : Int32)).toNatClampNeg)), (6, .inl (1 : Int32)), (0, .inr (.inr (some 0))), (1, .inl v1), (2, .inl v2), (4, .inl v4), (5, .inl v5)]) rfl ?_
            refine zg_iload dd_223_136 (j := 1) rfl ?_
            refine zg_istore dd_223_138 (Nat.le_of_ble_eq_true rfl) (lv' := [(4, .inl (r27.1 - (r12 9 (((2 : Int32) * v2) + (1 : Int32)).toNatClampNeg))), (3, .inl v5), (8, .inl (r27.1 - (r12 9 (((2 : Int32) * v2) + (1 : Int32)).toNatClampNeg))), (7, .inl (r12 9 (((2 : Int32) * v2) + (1 : Int32)).toNatClampNeg)), (6, .inl (1 : Int32)), (0, .inr (.inr (some 0))), (1, .inl v1), (2, .inl v2), (5, .inl v5)]) rfl ?_
            refine zg_iinc dd_223_140 (j := 8) rfl (v := (v5 + (1 : Int32))) (by rw [kI_1]) (Nat.le_of_ble_eq_true rfl) (lv' := [(5, .inl (v5 + (1 : Int32))), (4, .inl (r27.1 - (r12 9 (((2 : Int32) * v2) + (1 : Int32)).toNatClampNeg))), (3, .inl v5), (8, .inl (r27.1 - (r12 9 (((2 : Int32) * v2) + (1 : Int32)).toNatClampNeg))), (7, .inl (r12 9 (((2 : Int32) * v2) + (1 : Int32)).toNatClampNeg)), (6, .inl (1 : Int32)), (0, .inr (.inr (some 0))), (1, .inl v1), (2, .inl v2)]) rfl ?_
            refine zg_goto (tgt := 32) dd_223_143 (by decide) ?_
            refine zg_sub [6, 7, 8, 2, 1, 0] rfl ?_
            exact ih _ _ _ _ _ _ h
          · replace h := z_f h q30
            refine zg_iload dd_223_126 (j := 0) rfl ?_
            refine zg_iload dd_223_128 (j := 7) rfl ?_
            refine zg_icmp_le (tgt := 140) dd_223_130 (by decide) (fun q31 => ?_) (fun q31 => ?_)
            · replace h := z_t h q31
              refine zg_iinc dd_223_140 (j := 8) rfl (v := (v5 + (1 : Int32))) (by rw [kI_1]) (Nat.le_of_ble_eq_true rfl) (lv' := [(5, .inl (v5 + (1 : Int32))), (8, .inl (r27.1 - (r12 9 (((2 : Int32) * v2) + (1 : Int32)).toNatClampNeg))), (7, .inl (r12 9 (((2 : Int32) * v2) + (1 : Int32)).toNatClampNeg)), (6, .inl (1 : Int32)), (0, .inr (.inr (some 0))), (1, .inl v1), (2, .inl v2), (3, .inl v3), (4, .inl v4)]) rfl ?_
              refine zg_goto (tgt := 32) dd_223_143 (by decide) ?_
              refine zg_sub [4, 5, 6, 7, 8, 0] rfl ?_
              exact ih _ _ _ _ _ _ h
            · replace h := z_f h q31
              refine zg_iload dd_223_133 (j := 8) rfl ?_
              refine zg_istore_n dd_223_135 rfl (Nat.le_of_ble_eq_true rfl) (lv' := [(3, .inl v5), (8, .inl (r27.1 - (r12 9 (((2 : Int32) * v2) + (1 : Int32)).toNatClampNeg))), (7, .inl (r12 9 (((2 : Int32) * v2) + (1 : Int32)).toNatClampNeg)), (6, .inl (1 : Int32)), (0, .inr (.inr (some 0))), (1, .inl v1), (2, .inl v2), (4, .inl v4), (5, .inl v5)]) rfl ?_
              refine zg_iload dd_223_136 (j := 1) rfl ?_
              refine zg_istore dd_223_138 (Nat.le_of_ble_eq_true rfl) (lv' := [(4, .inl (r27.1 - (r12 9 (((2 : Int32) * v2) + (1 : Int32)).toNatClampNeg))), (3, .inl v5), (8, .inl (r27.1 - (r12 9 (((2 : Int32) * v2) + (1 : Int32)).toNatClampNeg))), (7, .inl (r12 9 (((2 : Int32) * v2) + (1 : Int32)).toNatClampNeg)), (6, .inl (1 : Int32)), (0, .inr (.inr (some 0))), (1, .inl v1), (2, .inl v2), (5, .inl v5)]) rfl ?_
              refine zg_iinc dd_223_140 (j := 8) rfl (v := (v5 + (1 : Int32))) (by rw [kI_1]) (Nat.le_of_ble_eq_true rfl) (lv' := [(5, .inl (v5 + (1 : Int32))), (4, .inl (r27.1 - (r12 9 (((2 : Int32) * v2) + (1 : Int32)).toNatClampNeg))), (3, .inl v5), (8, .inl (r27.1 - (r12 9 (((2 : Int32) * v2) + (1 : Int32)).toNatClampNeg))), (7, .inl (r12 9 (((2 : Int32) * v2) + (1 : Int32)).toNatClampNeg)), (6, .inl (1 : Int32)), (0, .inr (.inr (some 0))), (1, .inl v1), (2, .inl v2)]) rfl ?_
              refine zg_goto (tgt := 32) dd_223_143 (by decide) ?_
              refine zg_sub [6, 7, 8, 2, 1, 0] rfl ?_
              exact ih _ _ _ _ _ _ h
set_option maxRecDepth 20000 in
theorem mt_fm_bring {I : zI} {a1 : Int32} {res : (Int32 × zI)} (h : fm_bring I a1 = some res) : zM 6 ym_223 [.inr (.inr (some 0)), .inl a1] (zMs, zMr, I) (some (.inl res.1)) (zMs, zMr, res.2) 0 0 := by
  refine zM_of (by decide) (Nat.le_of_ble_eq_true rfl) (lv := [(0, .inr (.inr (some 0))), (1, .inl a1)]) rfl ?_
  rw [fm_bring] at h
  refine zg_aload_n dd_223_0 rfl (j := 0) rfl ?_
  refine zg_iload_n dd_223_1 rfl (j := 1) rfl ?_
  refine zg_iconst dd_223_2 kI_3 ?_
  obtain ⟨r1, e2, h⟩ := z_bd h
  refine zg_invV_i (av := [.inl a1, .inl (3 : Int32)]) (st := []) (n := 2) dd_223_3 ca_144 zw_1150 zw_1152 zv_32 zMs_0 zcl_12 rfl (mt_fm_is e2) rfl ⟨by decide +kernel, by decide⟩ (Nat.le_of_ble_eq_true rfl) ?_
  refine zg_if_ne (tgt := 16) dd_223_6 (by decide) (fun q3 => ?_) (fun q3 => ?_)
  · replace h := z_f h q3
    refine zg_aload_n dd_223_16 rfl (j := 0) rfl ?_
    refine zg_iload_n dd_223_17 rfl (j := 1) rfl ?_
    obtain ⟨r4, e5, h⟩ := z_bd h
    refine zg_invV_i (av := [.inl a1]) (st := []) (n := 1) dd_223_18 ca_215 zw_1456 zw_1458 zv_69 zMs_0 zcl_12 rfl (mt_fm_whereIs e5) rfl ⟨by decide +kernel, by decide⟩ (Nat.le_of_ble_eq_true rfl) ?_
    refine zg_iconst dd_223_21 kI_2 ?_
    refine zg_idiv dd_223_22 (by decide) ?_
    refine zg_istore_n dd_223_23 rfl (Nat.le_of_ble_eq_true rfl) (lv' := [(2, .inl (r4 / (2 : Int32))), (0, .inr (.inr (some 0))), (1, .inl a1)]) rfl ?_
    refine zg_iconst dd_223_24 kI_m1 ?_
    refine zg_istore_n dd_223_25 rfl (Nat.le_of_ble_eq_true rfl) (lv' := [(3, .inl (-1 : Int32)), (2, .inl (r4 / (2 : Int32))), (0, .inr (.inr (some 0))), (1, .inl a1)]) rfl ?_
    refine zg_iconst dd_223_26 kI_0 ?_
    refine zg_istore dd_223_27 (Nat.le_of_ble_eq_true rfl) (lv' := [(4, .inl (0 : Int32)), (3, .inl (-1 : Int32)), (2, .inl (r4 / (2 : Int32))), (0, .inr (.inr (some 0))), (1, .inl a1)]) rfl ?_
    refine zg_iconst dd_223_29 kI_0 ?_
    refine zg_istore dd_223_30 (Nat.le_of_ble_eq_true rfl) (lv' := [(5, .inl (0 : Int32)), (4, .inl (0 : Int32)), (3, .inl (-1 : Int32)), (2, .inl (r4 / (2 : Int32))), (0, .inr (.inr (some 0))), (1, .inl a1)]) rfl ?_
    refine zg_sub [4, 5, 3, 2, 1, 0] rfl ?_
    refine lt_fm_bring_L32  _ _ _ _ _ _ _ h
  · replace h := z_t h q3
    refine zg_aload_n dd_223_9 rfl (j := 0) rfl ?_
    refine zg_ldc dd_223_10 zw_1139 ?_
    obtain ⟨r32, e33, h⟩ := z_bd h
    refine zg_invV_i (av := [.inl (-1000001 : Int32)]) (st := []) (n := 1) dd_223_12 ca_142 zw_1140 zw_1142 zv_31 zMs_0 zcl_12 rfl (mt_fm_finding e33) rfl ⟨by decide +kernel, by decide⟩ (Nat.le_of_ble_eq_true rfl) ?_
    obtain rfl := Option.some.inj h
    exact zg_iret dd_223_15 rfl
