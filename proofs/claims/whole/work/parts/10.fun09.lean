/-! TurnedLandModel.text(0, None) -/
def fm_text_L120 : Nat → Int32 → zI → Option (Int32 × zI)
  | 0, _, _ => none
  | nf + 1, v2, I =>
    if (I 0 11) ≤ v2 then
      some ((1 : Int32), I)
    else
      z_guard (zb v2 60) <|
      z_guard (zb ((((324 : Int32) + ((62 : Int32) * (I 0 8))) + (1 : Int32)) + v2) 448) <|
      fm_text_L120 nf (v2 + (1 : Int32)) (zup I 1 ((((324 : Int32) + ((62 : Int32) * (I 0 8))) + (1 : Int32)) + v2).toNatClampNeg (I 6 v2.toNatClampNeg))
def fm_text_J72 (I : zI) (x1 : Int32) : Option (Int32 × zI) :=
  z_guard (zbb x1) <|
  if x1 = 0 then
    z_guard (zb ((324 : Int32) + ((62 : Int32) * (I 0 8))) 448) <|
    fm_text_L120
      100 (0 : Int32) (zup (zup (zup I 0 9 x1) 1 (6 : Int32).toNatClampNeg (0 : Int32)) 1 ((324 : Int32) + ((62 : Int32) * (I 0 8))).toNatClampNeg (I 0 11))
  else
    some (((-10 : Int32) - (I 0 6)), (zup (zup I 0 9 x1) 1 (6 : Int32).toNatClampNeg (0 : Int32)))
def fm_text_J67 (I : zI) : Option (Int32 × zI) :=
  fm_text_J72 I (1 : Int32)
def fm_text (I : zI) (a1 : Int32) : Option (Int32 × zI) :=
  (fm_within I a1 (0 : Int32) (1 : Int32)).bind fun r1 =>
  if r1 = 0 then
    (fm_finding I (-1000001 : Int32)).bind fun r14 =>
    some (r14.1, r14.2)
  else
    (fm_either (fm_one 40) (zup (zup (zup (zup (zup I 0 8 a1) 0 6 (0 : Int32)) 0 7 (0 : Int32)) 0 9 (0 : Int32)) 0 11 (0 : Int32))).bind fun r4 =>
    if (r4 0 9) = 0 then
      if (r4 1 (6 : Int32).toNatClampNeg) ≤ (r4 0 6) then
        fm_text_J72 r4 (0 : Int32)
      else
        fm_text_J67 r4
    else
      fm_text_J67 r4
set_option maxRecDepth 20000 in
theorem lt_fm_text_L120 {res : (Int32 × zI)} : ∀ (nf : Nat) (v2 : Int32) (I : zI), fm_text_L120 nf v2 I = some res → zG 328 ym_170 0 0 (some (.inl res.1)) (zMs, zMr, res.2) zMs.length 120 [(0, .inr (.inr (some 0))), (2, .inl v2)] [] (zMs, zMr, I) 0 0 := by
  intro nf
  induction nf with
  | zero =>
    intro v2 I h
    have h2 : none = some res := h
    cases h2
  | succ nf ih =>
    intro v2 I h
    rw [fm_text_L120] at h
    refine zg_iload_n dd_170_120 rfl (j := 1) rfl ?_
    refine zg_aload_n dd_170_121 rfl (j := 0) rfl ?_
    refine zg_getI (x := (I 0 11)) dd_170_122 zl_M_156 zMs_0 rfl rfl ?_
    refine zg_icmp_ge (tgt := 160) dd_170_125 (by decide) (fun q10 => ?_) (fun q10 => ?_)
    · replace h := z_t h q10
      refine zg_iconst dd_170_160 kI_1 ?_
      obtain rfl := Option.some.inj h
      exact zg_iret dd_170_161 rfl
    · replace h := z_f h q10
      refine zg_aload_n dd_170_128 rfl (j := 0) rfl ?_
      refine zg_getR dd_170_129 zl_M_9 zMs_0 rfl zMr_0_0 ?_
      refine zg_sipush dd_170_132 kS_324 ?_
      refine zg_bipush dd_170_135 kB_62 ?_
      refine zg_aload_n dd_170_137 rfl (j := 0) rfl ?_
      refine zg_getI (x := (I 0 8)) dd_170_138 zl_M_181 zMs_0 rfl rfl ?_
      refine zg_imul dd_170_141 ?_
      refine zg_iadd dd_170_142 ?_
      refine zg_iconst dd_170_143 kI_1 ?_
      refine zg_iadd dd_170_144 ?_
      refine zg_iload_n dd_170_145 rfl (j := 1) rfl ?_
      refine zg_iadd dd_170_146 ?_
      refine zg_aload_n dd_170_147 rfl (j := 0) rfl ?_
      refine zg_getR dd_170_148 zl_M_32 zMs_0 rfl zMr_0_10 ?_
      refine zg_iload_n dd_170_151 rfl (j := 1) rfl ?_
      obtain ⟨g11, h⟩ := z_gd h
      refine zg_iald (w := (I 6 v2.toNatClampNeg)) dd_170_152 zMs_6 g11 rfl ?_
      obtain ⟨g12, h⟩ := z_gd h
      refine zg_iast dd_170_153 zMs_1 g12 ?_
      refine zg_iinc dd_170_154 (j := 1) rfl (v := (v2 + (1 : Int32))) (by rw [kI_1]) (Nat.le_of_ble_eq_true rfl) (lv' := [(2, .inl (v2 + (1 : Int32))), (0, .inr (.inr (some 0)))]) rfl ?_
      refine zg_goto (tgt := 120) dd_170_157 (by decide) ?_
      refine zg_sub [1, 0] rfl ?_
      exact ih _ _ h
set_option maxRecDepth 20000 in
theorem jt_fm_text_J72 {res : (Int32 × zI)} {I : zI} {x1 : Int32} (h : fm_text_J72 I x1 = some res) : zG 328 ym_170 0 0 (some (.inl res.1)) (zMs, zMr, res.2) zMs.length 72 [(0, .inr (.inr (some 0)))] [.inl x1, .inr (.inr (some 0))] (zMs, zMr, I) 0 0 := by
  rw [fm_text_J72] at h
  obtain ⟨g7, h⟩ := z_gd h
  refine zg_putI dd_170_72 zp_M_145 zMs_0 rfl (zSt_bb g7) ?_
  refine zg_aload_n dd_170_75 rfl (j := 0) rfl ?_
  refine zg_getR dd_170_76 zl_M_9 zMs_0 rfl zMr_0_0 ?_
  refine zg_bipush dd_170_79 kB_6 ?_
  refine zg_iconst dd_170_81 kI_0 ?_
  refine zg_iast dd_170_82 zMs_1 (by decide) ?_
  refine zg_aload_n dd_170_83 rfl (j := 0) rfl ?_
  refine zg_getI (x := x1) dd_170_84 zl_M_145 zMs_0 rfl rfl ?_
  refine zg_if_eq (tgt := 98) dd_170_87 (by decide) (fun q8 => ?_) (fun q8 => ?_)
  · replace h := z_t h q8
    refine zg_aload_n dd_170_98 rfl (j := 0) rfl ?_
    refine zg_getR dd_170_99 zl_M_9 zMs_0 rfl zMr_0_0 ?_
    refine zg_sipush dd_170_102 kS_324 ?_
    refine zg_bipush dd_170_105 kB_62 ?_
    refine zg_aload_n dd_170_107 rfl (j := 0) rfl ?_
    refine zg_getI (x := (I 0 8)) dd_170_108 zl_M_181 zMs_0 rfl rfl ?_
    refine zg_imul dd_170_111 ?_
    refine zg_iadd dd_170_112 ?_
    refine zg_aload_n dd_170_113 rfl (j := 0) rfl ?_
    refine zg_getI (x := (I 0 11)) dd_170_114 zl_M_156 zMs_0 rfl rfl ?_
    obtain ⟨g9, h⟩ := z_gd h
    refine zg_iast dd_170_117 zMs_1 g9 ?_
    refine zg_iconst dd_170_118 kI_0 ?_
    refine zg_istore_n dd_170_119 rfl (Nat.le_of_ble_eq_true rfl) (lv' := [(2, .inl (0 : Int32)), (0, .inr (.inr (some 0)))]) rfl ?_
    refine zg_sub [1, 0] rfl ?_
    refine lt_fm_text_L120  _ _ _ h
  · replace h := z_f h q8
    refine zg_bipush dd_170_90 kB_m10 ?_
    refine zg_aload_n dd_170_92 rfl (j := 0) rfl ?_
    refine zg_getI (x := (I 0 6)) dd_170_93 zl_M_149 zMs_0 rfl rfl ?_
    refine zg_isub dd_170_96 ?_
    obtain rfl := Option.some.inj h
    exact zg_iret dd_170_97 rfl
set_option maxRecDepth 20000 in
theorem jt_fm_text_J67 {res : (Int32 × zI)} {I : zI} (h : fm_text_J67 I  = some res) : zG 328 ym_170 0 0 (some (.inl res.1)) (zMs, zMr, res.2) zMs.length 67 [(0, .inr (.inr (some 0)))] [.inr (.inr (some 0))] (zMs, zMr, I) 0 0 := by
  rw [fm_text_J67] at h
  refine zg_iconst dd_170_67 kI_1 ?_
  refine zg_goto (tgt := 72) dd_170_68 (by decide) ?_
  refine zg_sub [0] rfl ?_
  exact jt_fm_text_J72 h
set_option maxRecDepth 20000 in
theorem mt_fm_text {I : zI} {a1 : Int32} {res : (Int32 × zI)} (h : fm_text I a1 = some res) : zM 328 ym_170 [.inr (.inr (some 0)), .inl a1] (zMs, zMr, I) (some (.inl res.1)) (zMs, zMr, res.2) 0 0 := by
  refine zM_of (by decide) (Nat.le_of_ble_eq_true rfl) (lv := [(0, .inr (.inr (some 0))), (1, .inl a1)]) rfl ?_
  rw [fm_text] at h
  refine zg_iload_n dd_170_0 rfl (j := 1) rfl ?_
  refine zg_iconst dd_170_1 kI_0 ?_
  refine zg_iconst dd_170_2 kI_1 ?_
  obtain ⟨r1, e2, h⟩ := z_bd h
  refine zg_invS_i (av := [.inl a1, .inl (0 : Int32), .inl (1 : Int32)]) (st := []) (n := 3) dd_170_3 ca_141 zw_1136 zw_1137 (mt_fm_within e2) rfl ⟨by decide +kernel, by decide⟩ (Nat.le_of_ble_eq_true rfl) ?_
  refine zg_if_ne (tgt := 16) dd_170_6 (by decide) (fun q3 => ?_) (fun q3 => ?_)
  · replace h := z_f h q3
    refine zg_aload_n dd_170_16 rfl (j := 0) rfl ?_
    refine zg_iload_n dd_170_17 rfl (j := 1) rfl ?_
    refine zg_putI dd_170_18 zp_M_181 zMs_0 rfl (zSt_int _) ?_
    refine zg_aload_n dd_170_21 rfl (j := 0) rfl ?_
    refine zg_iconst dd_170_22 kI_0 ?_
    refine zg_putI dd_170_23 zp_M_149 zMs_0 rfl (zSt_int _) ?_
    refine zg_aload_n dd_170_26 rfl (j := 0) rfl ?_
    refine zg_iconst dd_170_27 kI_0 ?_
    refine zg_putI dd_170_28 zp_M_191 zMs_0 rfl (zSt_int _) ?_
    refine zg_aload_n dd_170_31 rfl (j := 0) rfl ?_
    refine zg_iconst dd_170_32 kI_0 ?_
    refine zg_putI dd_170_33 zp_M_145 zMs_0 rfl zSt_b0 ?_
    refine zg_aload_n dd_170_36 rfl (j := 0) rfl ?_
    refine zg_iconst dd_170_37 kI_0 ?_
    refine zg_putI dd_170_38 zp_M_156 zMs_0 rfl (zSt_int _) ?_
    refine zg_aload_n dd_170_41 rfl (j := 0) rfl ?_
    obtain ⟨r4, e5, h⟩ := z_bd h
    refine zg_invV_v (av := []) (st := []) (n := 0) dd_170_42 ca_171 zw_1261 zw_1263 zv_48 zMs_0 zcl_12 rfl (mt_fm_either (mt_fm_one 40) e5) rfl ⟨by decide +kernel, by decide⟩ (Nat.le_of_ble_eq_true rfl) ?_
    refine zg_aload_n dd_170_45 rfl (j := 0) rfl ?_
    refine zg_aload_n dd_170_46 rfl (j := 0) rfl ?_
    refine zg_getI (x := (r4 0 9)) dd_170_47 zl_M_145 zMs_0 rfl rfl ?_
    refine zg_if_ne (tgt := 67) dd_170_50 (by decide) (fun q6 => ?_) (fun q6 => ?_)
    · replace h := z_f h q6
      refine zg_sub [0] rfl ?_
      exact jt_fm_text_J67 h
    · replace h := z_t h q6
      refine zg_aload_n dd_170_53 rfl (j := 0) rfl ?_
      refine zg_getI (x := (r4 0 6)) dd_170_54 zl_M_149 zMs_0 rfl rfl ?_
      refine zg_aload_n dd_170_57 rfl (j := 0) rfl ?_
      refine zg_getR dd_170_58 zl_M_9 zMs_0 rfl zMr_0_0 ?_
      refine zg_bipush dd_170_61 kB_6 ?_
      refine zg_iald (w := (r4 1 (6 : Int32).toNatClampNeg)) dd_170_63 zMs_1 (by decide) rfl ?_
      refine zg_icmp_ge (tgt := 71) dd_170_64 (by decide) (fun q13 => ?_) (fun q13 => ?_)
      · replace h := z_t h q13
        refine zg_iconst dd_170_71 kI_0 ?_
        refine zg_sub [0] rfl ?_
        exact jt_fm_text_J72 h
      · replace h := z_f h q13
        refine zg_sub [0] rfl ?_
        exact jt_fm_text_J67 h
  · replace h := z_t h q3
    refine zg_aload_n dd_170_9 rfl (j := 0) rfl ?_
    refine zg_ldc dd_170_10 zw_1139 ?_
    obtain ⟨r14, e15, h⟩ := z_bd h
    refine zg_invV_i (av := [.inl (-1000001 : Int32)]) (st := []) (n := 1) dd_170_12 ca_142 zw_1140 zw_1142 zv_31 zMs_0 zcl_12 rfl (mt_fm_finding e15) rfl ⟨by decide +kernel, by decide⟩ (Nat.le_of_ble_eq_true rfl) ?_
    obtain rfl := Option.some.inj h
    exact zg_iret dd_170_15 rfl
/-! TurnedLandModel.untell(0, None) -/
def fm_untell (I : zI) (a1 : Int32) : Option (Int32 × zI) :=
  (fm_within I a1 (0 : Int32) (1 : Int32)).bind fun r1 =>
  if r1 = 0 then
    (fm_finding I (-1000001 : Int32)).bind fun r4 =>
    some (r4.1, r4.2)
  else
    (fm_become I ((324 : Int32) + ((62 : Int32) * a1)) (0 : Int32)).bind fun r6 =>
    if r6.1 ≤ 0 then
      some ((0 : Int32), r6.2)
    else
      some ((1 : Int32), r6.2)
set_option maxRecDepth 20000 in
theorem mt_fm_untell {I : zI} {a1 : Int32} {res : (Int32 × zI)} (h : fm_untell I a1 = some res) : zM 2 ym_188 [.inr (.inr (some 0)), .inl a1] (zMs, zMr, I) (some (.inl res.1)) (zMs, zMr, res.2) 0 0 := by
  refine zM_of (by decide) (Nat.le_of_ble_eq_true rfl) (lv := [(0, .inr (.inr (some 0))), (1, .inl a1)]) rfl ?_
  rw [fm_untell] at h
  refine zg_iload_n dd_188_0 rfl (j := 1) rfl ?_
  refine zg_iconst dd_188_1 kI_0 ?_
  refine zg_iconst dd_188_2 kI_1 ?_
  obtain ⟨r1, e2, h⟩ := z_bd h
  refine zg_invS_i (av := [.inl a1, .inl (0 : Int32), .inl (1 : Int32)]) (st := []) (n := 3) dd_188_3 ca_141 zw_1136 zw_1137 (mt_fm_within e2) rfl ⟨by decide +kernel, by decide⟩ (Nat.le_of_ble_eq_true rfl) ?_
  refine zg_if_eq (tgt := 33) dd_188_6 (by decide) (fun q3 => ?_) (fun q3 => ?_)
  · replace h := z_t h q3
    refine zg_aload_n dd_188_33 rfl (j := 0) rfl ?_
    refine zg_ldc dd_188_34 zw_1139 ?_
    obtain ⟨r4, e5, h⟩ := z_bd h
    refine zg_invV_i (av := [.inl (-1000001 : Int32)]) (st := []) (n := 1) dd_188_36 ca_142 zw_1140 zw_1142 zv_31 zMs_0 zcl_12 rfl (mt_fm_finding e5) rfl ⟨by decide +kernel, by decide⟩ (Nat.le_of_ble_eq_true rfl) ?_
    obtain rfl := Option.some.inj h
    exact zg_iret dd_188_39 rfl
  · replace h := z_f h q3
    refine zg_aload_n dd_188_9 rfl (j := 0) rfl ?_
    refine zg_sipush dd_188_10 kS_324 ?_
    refine zg_bipush dd_188_13 kB_62 ?_
    refine zg_iload_n dd_188_15 rfl (j := 1) rfl ?_
    refine zg_imul dd_188_16 ?_
    refine zg_iadd dd_188_17 ?_
    refine zg_iconst dd_188_18 kI_0 ?_
    obtain ⟨r6, e7, h⟩ := z_bd h
    refine zg_invV_i (av := [.inl ((324 : Int32) + ((62 : Int32) * a1)), .inl (0 : Int32)]) (st := []) (n := 2) dd_188_19 ca_145 zw_1154 zw_1156 zv_33 zMs_0 zcl_12 rfl (mt_fm_become e7) rfl ⟨by decide +kernel, by decide⟩ (Nat.le_of_ble_eq_true rfl) ?_
    refine zg_if_le (tgt := 29) dd_188_22 (by decide) (fun q8 => ?_) (fun q8 => ?_)
    · replace h := z_t h q8
      refine zg_iconst dd_188_29 kI_0 ?_
      refine zg_goto (tgt := 39) dd_188_30 (by decide) ?_
      obtain rfl := Option.some.inj h
      exact zg_iret dd_188_39 rfl
    · replace h := z_f h q8
      refine zg_iconst dd_188_25 kI_1 ?_
      refine zg_goto (tgt := 39) dd_188_26 (by decide) ?_
      obtain rfl := Option.some.inj h
      exact zg_iret dd_188_39 rfl
/-! TurnedLandModel.isPlace[0, None] -/
def fm_isPlace (I : zI) (a1 : Int32) : Option Int32 :=
  (fm_within I a1 (0 : Int32) (((2 : Int32) * (I 1 (0 : Int32).toNatClampNeg)) - (1 : Int32))).bind fun r1 =>
  z_guard (zbb r1) <|
  some r1
set_option maxRecDepth 20000 in
theorem mt_fm_isPlace {I : zI} {a1 : Int32} {res : Int32} (h : fm_isPlace I a1 = some res) : zM 2 ym_190 [.inr (.inr (some 0)), .inl a1] (zMs, zMr, I) (some (.inl res)) (zMs, zMr, I) 0 0 := by
  refine zM_of (by decide) (Nat.le_of_ble_eq_true rfl) (lv := [(0, .inr (.inr (some 0))), (1, .inl a1)]) rfl ?_
  rw [fm_isPlace] at h
  refine zg_iload_n dd_190_0 rfl (j := 1) rfl ?_
  refine zg_iconst dd_190_1 kI_0 ?_
  refine zg_iconst dd_190_2 kI_2 ?_
  refine zg_aload_n dd_190_3 rfl (j := 0) rfl ?_
  refine zg_getR dd_190_4 zl_M_9 zMs_0 rfl zMr_0_0 ?_
  refine zg_iconst dd_190_7 kI_0 ?_
  refine zg_iald (w := (I 1 (0 : Int32).toNatClampNeg)) dd_190_8 zMs_1 (by decide) rfl ?_
  refine zg_imul dd_190_9 ?_
  refine zg_iconst dd_190_10 kI_1 ?_
  refine zg_isub dd_190_11 ?_
  obtain ⟨r1, e2, h⟩ := z_bd h
  refine zg_invS_i (av := [.inl a1, .inl (0 : Int32), .inl (((2 : Int32) * (I 1 (0 : Int32).toNatClampNeg)) - (1 : Int32))]) (st := []) (n := 3) dd_190_12 ca_141 zw_1136 zw_1137 (mt_fm_within e2) rfl ⟨by decide +kernel, by decide⟩ (Nat.le_of_ble_eq_true rfl) ?_
  obtain ⟨g3, h⟩ := z_gd h
  obtain rfl := Option.some.inj h
  exact zg_zret dd_190_15 rfl (zSt_bb g3).1
/-! TurnedLandModel.held[None, None, None] -/
def fm_held (I : zI) (a0 : Int32) (a1 : Int32) (a2 : Int32) : Option Int32 :=
  some (zmax a1 (zmin a2 a0))
set_option maxRecDepth 20000 in
theorem mt_fm_held {I : zI} {a0 : Int32} {a1 : Int32} {a2 : Int32} {res : Int32} (h : fm_held I a0 a1 a2 = some res) : zM 1 ym_195 [.inl a0, .inl a1, .inl a2] (zMs, zMr, I) (some (.inl res)) (zMs, zMr, I) 0 0 := by
  refine zM_of (by decide) (Nat.le_of_ble_eq_true rfl) (lv := [(0, .inl a0), (1, .inl a1), (2, .inl a2)]) rfl ?_
  rw [fm_held] at h
  refine zg_iload_n dd_195_0 rfl (j := 1) rfl ?_
  refine zg_iload_n dd_195_1 rfl (j := 2) rfl ?_
  refine zg_iload_n dd_195_2 rfl (j := 0) rfl ?_
  refine zg_zmin (st := [.inl a1]) dd_195_3 zw_1223 zmin_w (Nat.le_of_ble_eq_true rfl) (Nat.le_of_ble_eq_true rfl) ?_
  refine zg_zmax (st := []) dd_195_6 zw_1224 zmax_w (Nat.le_of_ble_eq_true rfl) (Nat.le_of_ble_eq_true rfl) ?_
  obtain rfl := Option.some.inj h
  exact zg_iret dd_195_9 rfl
/-! TurnedLandModel.done[None, None, None] -/
def fm_done (I : zI) (a0 : Int32) (a1 : Int32) (a2 : Int32) : Option Int32 :=
  if a0 = (20000 : Int32) then
    if a1 = 0 then
      if a2 = 0 then
        some (0 : Int32)
      else
        some (1 : Int32)
    else
      some (1 : Int32)
  else if a0 = (20001 : Int32) then
    if a1 = 0 then
      some (0 : Int32)
    else
      if a2 = 0 then
        some (0 : Int32)
      else
        some (1 : Int32)
  else if a0 = (20002 : Int32) then
    if a2 ≤ a1 then
      some (0 : Int32)
    else
      some (1 : Int32)
  else if a0 = (20003 : Int32) then
    if a1 = a2 then
      some (1 : Int32)
    else
      some (0 : Int32)
  else if a0 = (20004 : Int32) then
    if a1 ≤ a2 then
      some (0 : Int32)
    else
      some (1 : Int32)
  else if a0 = (20005 : Int32) then
    some (a1 + a2)
  else if a0 = (20006 : Int32) then
    some (a1 - a2)
  else if a0 = (20007 : Int32) then
    some (a1 * a2)
  else if a0 = (20008 : Int32) then
    if a2 = 0 then
      some (0 : Int32)
    else
      if a2 = 0 then none else
      some (a1 / a2)
  else
    if a2 = 0 then
      some (0 : Int32)
    else
      if a2 = 0 then none else
      some (a1 % a2)
set_option maxRecDepth 20000 in
theorem mt_fm_done {I : zI} {a0 : Int32} {a1 : Int32} {a2 : Int32} {res : Int32} (h : fm_done I a0 a1 a2 = some res) : zM 1 ym_197 [.inl a0, .inl a1, .inl a2] (zMs, zMr, I) (some (.inl res)) (zMs, zMr, I) 0 0 := by
  refine zM_of (by decide) (Nat.le_of_ble_eq_true rfl) (lv := [(0, .inl a0), (1, .inl a1), (2, .inl a2)]) rfl ?_
  rw [fm_done] at h
  refine zg_iload_n dd_197_0 rfl (j := 0) rfl ?_
  rcases z_if h with ⟨q1, h⟩ | ⟨q1, h⟩
  · refine zg_tabIn (tgt := 52) 51 dd_197_1 q1 (by decide) (by decide) (by decide) ?_
    refine zg_iload_n dd_197_52 rfl (j := 1) rfl ?_
    refine zg_if_ne (tgt := 60) dd_197_53 (by decide) (fun q2 => ?_) (fun q2 => ?_)
    · replace h := z_f h q2
      refine zg_iconst dd_197_60 kI_1 ?_
      refine zg_goto (tgt := 65) dd_197_61 (by decide) ?_
      obtain rfl := Option.some.inj h
      exact zg_iret dd_197_65 rfl
    · replace h := z_t h q2
      refine zg_iload_n dd_197_56 rfl (j := 2) rfl ?_
      refine zg_if_eq (tgt := 64) dd_197_57 (by decide) (fun q3 => ?_) (fun q3 => ?_)
      · replace h := z_t h q3
        refine zg_iconst dd_197_64 kI_0 ?_
        obtain rfl := Option.some.inj h
        exact zg_iret dd_197_65 rfl
      · replace h := z_f h q3
        refine zg_iconst dd_197_60 kI_1 ?_
        refine zg_goto (tgt := 65) dd_197_61 (by decide) ?_
        obtain rfl := Option.some.inj h
        exact zg_iret dd_197_65 rfl
  rcases z_if h with ⟨q4, h⟩ | ⟨q4, h⟩
  · refine zg_tabIn (tgt := 66) 65 dd_197_1 q4 (by decide) (by decide) (by decide) ?_
    refine zg_iload_n dd_197_66 rfl (j := 1) rfl ?_
    refine zg_if_eq (tgt := 78) dd_197_67 (by decide) (fun q5 => ?_) (fun q5 => ?_)
    · replace h := z_t h q5
      refine zg_iconst dd_197_78 kI_0 ?_
      obtain rfl := Option.some.inj h
      exact zg_iret dd_197_79 rfl
    · replace h := z_f h q5
      refine zg_iload_n dd_197_70 rfl (j := 2) rfl ?_
      refine zg_if_eq (tgt := 78) dd_197_71 (by decide) (fun q6 => ?_) (fun q6 => ?_)
      · replace h := z_t h q6
        refine zg_iconst dd_197_78 kI_0 ?_
        obtain rfl := Option.some.inj h
        exact zg_iret dd_197_79 rfl
      · replace h := z_f h q6
        refine zg_iconst dd_197_74 kI_1 ?_
        refine zg_goto (tgt := 79) dd_197_75 (by decide) ?_
        obtain rfl := Option.some.inj h
        exact zg_iret dd_197_79 rfl
  rcases z_if h with ⟨q7, h⟩ | ⟨q7, h⟩
  · refine zg_tabIn (tgt := 80) 79 dd_197_1 q7 (by decide) (by decide) (by decide) ?_
    refine zg_iload_n dd_197_80 rfl (j := 1) rfl ?_
    refine zg_iload_n dd_197_81 rfl (j := 2) rfl ?_
    refine zg_icmp_ge (tgt := 89) dd_197_82 (by decide) (fun q8 => ?_) (fun q8 => ?_)
    · replace h := z_t h q8
      refine zg_iconst dd_197_89 kI_0 ?_
      obtain rfl := Option.some.inj h
      exact zg_iret dd_197_90 rfl
    · replace h := z_f h q8
      refine zg_iconst dd_197_85 kI_1 ?_
      refine zg_goto (tgt := 90) dd_197_86 (by decide) ?_
      obtain rfl := Option.some.inj h
      exact zg_iret dd_197_90 rfl
  rcases z_if h with ⟨q9, h⟩ | ⟨q9, h⟩
  · refine zg_tabIn (tgt := 91) 90 dd_197_1 q9 (by decide) (by decide) (by decide) ?_
    refine zg_iload_n dd_197_91 rfl (j := 1) rfl ?_
    refine zg_iload_n dd_197_92 rfl (j := 2) rfl ?_
    refine zg_icmp_ne (tgt := 100) dd_197_93 (by decide) (fun q10 => ?_) (fun q10 => ?_)
    · replace h := z_f h q10
      refine zg_iconst dd_197_100 kI_0 ?_
      obtain rfl := Option.some.inj h
      exact zg_iret dd_197_101 rfl
    · replace h := z_t h q10
      refine zg_iconst dd_197_96 kI_1 ?_
      refine zg_goto (tgt := 101) dd_197_97 (by decide) ?_
      obtain rfl := Option.some.inj h
      exact zg_iret dd_197_101 rfl
  rcases z_if h with ⟨q11, h⟩ | ⟨q11, h⟩
  · refine zg_tabIn (tgt := 102) 101 dd_197_1 q11 (by decide) (by decide) (by decide) ?_
    refine zg_iload_n dd_197_102 rfl (j := 1) rfl ?_
    refine zg_iload_n dd_197_103 rfl (j := 2) rfl ?_
    refine zg_icmp_le (tgt := 111) dd_197_104 (by decide) (fun q12 => ?_) (fun q12 => ?_)
    · replace h := z_t h q12
      refine zg_iconst dd_197_111 kI_0 ?_
      obtain rfl := Option.some.inj h
      exact zg_iret dd_197_112 rfl
    · replace h := z_f h q12
      refine zg_iconst dd_197_107 kI_1 ?_
      refine zg_goto (tgt := 112) dd_197_108 (by decide) ?_
      obtain rfl := Option.some.inj h
      exact zg_iret dd_197_112 rfl
  rcases z_if h with ⟨q13, h⟩ | ⟨q13, h⟩
  · refine zg_tabIn (tgt := 113) 112 dd_197_1 q13 (by decide) (by decide) (by decide) ?_
    refine zg_iload_n dd_197_113 rfl (j := 1) rfl ?_
    refine zg_iload_n dd_197_114 rfl (j := 2) rfl ?_
    refine zg_iadd dd_197_115 ?_
    obtain rfl := Option.some.inj h
    exact zg_iret dd_197_116 rfl
  rcases z_if h with ⟨q14, h⟩ | ⟨q14, h⟩
  · refine zg_tabIn (tgt := 117) 116 dd_197_1 q14 (by decide) (by decide) (by decide) ?_
    refine zg_iload_n dd_197_117 rfl (j := 1) rfl ?_
    refine zg_iload_n dd_197_118 rfl (j := 2) rfl ?_
    refine zg_isub dd_197_119 ?_
    obtain rfl := Option.some.inj h
    exact zg_iret dd_197_120 rfl
  rcases z_if h with ⟨q15, h⟩ | ⟨q15, h⟩
  · refine zg_tabIn (tgt := 121) 120 dd_197_1 q15 (by decide) (by decide) (by decide) ?_
    refine zg_iload_n dd_197_121 rfl (j := 1) rfl ?_
    refine zg_iload_n dd_197_122 rfl (j := 2) rfl ?_
    refine zg_imul dd_197_123 ?_
    obtain rfl := Option.some.inj h
    exact zg_iret dd_197_124 rfl
  rcases z_if h with ⟨q16, h⟩ | ⟨q16, h⟩
  · refine zg_tabIn (tgt := 125) 124 dd_197_1 q16 (by decide) (by decide) (by decide) ?_
    refine zg_iload_n dd_197_125 rfl (j := 2) rfl ?_
    refine zg_if_ne (tgt := 133) dd_197_126 (by decide) (fun q17 => ?_) (fun q17 => ?_)
    · replace h := z_f h q17
      refine zg_iload_n dd_197_133 rfl (j := 1) rfl ?_
      refine zg_iload_n dd_197_134 rfl (j := 2) rfl ?_
      rcases z_if h with ⟨_, h⟩ | ⟨g18, h⟩
      · cases h
      refine zg_idiv dd_197_135 g18 ?_
      obtain rfl := Option.some.inj h
      exact zg_iret dd_197_136 rfl
    · replace h := z_t h q17
      refine zg_iconst dd_197_129 kI_0 ?_
      refine zg_goto (tgt := 136) dd_197_130 (by decide) ?_
      obtain rfl := Option.some.inj h
      exact zg_iret dd_197_136 rfl
  refine zg_tabOut (tgt := 137) [(20000 : Int32), (20001 : Int32), (20002 : Int32), (20003 : Int32), (20004 : Int32), (20005 : Int32), (20006 : Int32), (20007 : Int32), (20008 : Int32)] dd_197_1 (by decide +kernel) (by simp only [List.mem_cons, List.not_mem_nil, or_false]; rintro _ (rfl | rfl | rfl | rfl | rfl | rfl | rfl | rfl | rfl) <;> assumption) (by decide) ?_
  refine zg_iload_n dd_197_137 rfl (j := 2) rfl ?_
  refine zg_if_ne (tgt := 145) dd_197_138 (by decide) (fun q19 => ?_) (fun q19 => ?_)
  · replace h := z_f h q19
    refine zg_iload_n dd_197_145 rfl (j := 1) rfl ?_
    refine zg_iload_n dd_197_146 rfl (j := 2) rfl ?_
    rcases z_if h with ⟨_, h⟩ | ⟨g20, h⟩
    · cases h
    refine zg_irem dd_197_147 g20 ?_
    obtain rfl := Option.some.inj h
    exact zg_iret dd_197_148 rfl
  · replace h := z_t h q19
    refine zg_iconst dd_197_141 kI_0 ?_
    refine zg_goto (tgt := 148) dd_197_142 (by decide) ?_
    obtain rfl := Option.some.inj h
    exact zg_iret dd_197_148 rfl
/-! TurnedLandModel.worked[0, None] -/
def fm_worked_L4 : Nat → Int32 → Int32 → Int32 → zI → Option (Int32 × zI)
  | 0, _, _, _, _ => none
  | nf + 1, v1, v2, v3, I =>
    z_guard (zb (v1 - (1 : Int32)) 448) <|
    if (v1 + (I 1 (v1 - (1 : Int32)).toNatClampNeg)) ≤ v3 then
      some ((I 8 (0 : Int32).toNatClampNeg), I)
    else
      z_guard (zb v3 448) <|
      if (20000 : Int32) ≤ (I 1 v3.toNatClampNeg) then
        if (I 1 v3.toNatClampNeg) = (20010 : Int32) then
          z_guard (zb (v2 - (1 : Int32)) 60) <|
          if (I 8 (v2 - (1 : Int32)).toNatClampNeg) = 0 then
            fm_worked_L4 nf v1 v2 (v3 + (1 : Int32)) (zup I 8 (v2 - (1 : Int32)).toNatClampNeg (1 : Int32))
          else
            fm_worked_L4 nf v1 v2 (v3 + (1 : Int32)) (zup I 8 (v2 - (1 : Int32)).toNatClampNeg (0 : Int32))
        else
          z_guard (zb ((v2 + (-1 : Int32)) - (1 : Int32)) 60) <|
          z_guard (zb (v2 + (-1 : Int32)) 60) <|
          (fm_done I (I 1 v3.toNatClampNeg) (I 8 ((v2 + (-1 : Int32)) - (1 : Int32)).toNatClampNeg) (I 8 (v2 + (-1 : Int32)).toNatClampNeg)).bind fun r8 =>
          fm_worked_L4 nf v1 (v2 + (-1 : Int32)) (v3 + (1 : Int32)) (zup I 8 ((v2 + (-1 : Int32)) - (1 : Int32)).toNatClampNeg r8)
      else
        if (10000 : Int32) ≤ (I 1 v3.toNatClampNeg) then
          z_guard (zb ((I 1 v3.toNatClampNeg) - (10000 : Int32)) 4) <|
          z_guard (zb v2 60) <|
          fm_worked_L4 nf v1 (v2 + (1 : Int32)) (v3 + (1 : Int32)) (zup I 8 v2.toNatClampNeg (I 7 ((I 1 v3.toNatClampNeg) - (10000 : Int32)).toNatClampNeg))
        else
          z_guard (zb v2 60) <|
          fm_worked_L4 nf v1 (v2 + (1 : Int32)) (v3 + (1 : Int32)) (zup I 8 v2.toNatClampNeg (I 1 v3.toNatClampNeg))
def fm_worked (I : zI) (a1 : Int32) : Option (Int32 × zI) :=
  fm_worked_L4
    100 a1 (0 : Int32) a1 I
set_option maxRecDepth 20000 in
theorem lt_fm_worked_L4 {res : (Int32 × zI)} : ∀ (nf : Nat) (v1 : Int32) (v2 : Int32) (v3 : Int32) (I : zI), fm_worked_L4 nf v1 v2 v3 I = some res → zG 2 ym_196 0 0 (some (.inl res.1)) (zMs, zMr, res.2) zMs.length 4 [(0, .inr (.inr (some 0))), (1, .inl v1), (2, .inl v2), (3, .inl v3)] [] (zMs, zMr, I) 0 0 := by
  intro nf
  induction nf with
  | zero =>
    intro v1 v2 v3 I h
    have h2 : none = some res := h
    cases h2
  | succ nf ih =>
    intro v1 v2 v3 I h
    rw [fm_worked_L4] at h
    refine zg_iload_n dd_196_4 rfl (j := 3) rfl ?_
    refine zg_iload_n dd_196_5 rfl (j := 1) rfl ?_
    refine zg_aload_n dd_196_6 rfl (j := 0) rfl ?_
    refine zg_getR dd_196_7 zl_M_9 zMs_0 rfl zMr_0_0 ?_
    refine zg_iload_n dd_196_10 rfl (j := 1) rfl ?_
    refine zg_iconst dd_196_11 kI_1 ?_
    refine zg_isub dd_196_12 ?_
    obtain ⟨g1, h⟩ := z_gd h
    refine zg_iald (w := (I 1 (v1 - (1 : Int32)).toNatClampNeg)) dd_196_13 zMs_1 g1 rfl ?_
    refine zg_iadd dd_196_14 ?_
    refine zg_icmp_ge (tgt := 141) dd_196_15 (by decide) (fun q2 => ?_) (fun q2 => ?_)
    · replace h := z_t h q2
      refine zg_aload_n dd_196_141 rfl (j := 0) rfl ?_
      refine zg_getR dd_196_142 zl_M_38 zMs_0 rfl zMr_0_13 ?_
      refine zg_iconst dd_196_145 kI_0 ?_
      refine zg_iald (w := (I 8 (0 : Int32).toNatClampNeg)) dd_196_146 zMs_8 (by decide) rfl ?_
      obtain rfl := Option.some.inj h
      exact zg_iret dd_196_147 rfl
    · replace h := z_f h q2
      refine zg_aload_n dd_196_18 rfl (j := 0) rfl ?_
      refine zg_getR dd_196_19 zl_M_9 zMs_0 rfl zMr_0_0 ?_
      refine zg_iload_n dd_196_22 rfl (j := 3) rfl ?_
      obtain ⟨g3, h⟩ := z_gd h
      refine zg_iald (w := (I 1 v3.toNatClampNeg)) dd_196_23 zMs_1 g3 rfl ?_
      refine zg_istore dd_196_24 (Nat.le_of_ble_eq_true rfl) (lv' := [(4, .inl (I 1 v3.toNatClampNeg)), (0, .inr (.inr (some 0))), (1, .inl v1), (2, .inl v2), (3, .inl v3)]) rfl ?_
      refine zg_iload dd_196_26 (j := 0) rfl ?_
      refine zg_sipush dd_196_28 kS_20000 ?_
      refine zg_icmp_ge (tgt := 70) dd_196_31 (by decide) (fun q4 => ?_) (fun q4 => ?_)
      · replace h := z_t h q4
        refine zg_iload dd_196_70 (j := 0) rfl ?_
        refine zg_sipush dd_196_72 kS_20010 ?_
        refine zg_icmp_ne (tgt := 105) dd_196_75 (by decide) (fun q5 => ?_) (fun q5 => ?_)
        · replace h := z_f h q5
          refine zg_iinc dd_196_105 (j := 3) rfl (v := (v2 + (-1 : Int32))) (by rw [kI_m1]) (Nat.le_of_ble_eq_true rfl) (lv' := [(2, .inl (v2 + (-1 : Int32))), (4, .inl (I 1 v3.toNatClampNeg)), (0, .inr (.inr (some 0))), (1, .inl v1), (3, .inl v3)]) rfl ?_
          refine zg_aload_n dd_196_108 rfl (j := 2) rfl ?_
          refine zg_getR dd_196_109 zl_M_38 zMs_0 rfl zMr_0_13 ?_
          refine zg_iload_n dd_196_112 rfl (j := 0) rfl ?_
          refine zg_iconst dd_196_113 kI_1 ?_
          refine zg_isub dd_196_114 ?_
          refine zg_iload dd_196_115 (j := 1) rfl ?_
          refine zg_aload_n dd_196_117 rfl (j := 2) rfl ?_
          refine zg_getR dd_196_118 zl_M_38 zMs_0 rfl zMr_0_13 ?_
          refine zg_iload_n dd_196_121 rfl (j := 0) rfl ?_
          refine zg_iconst dd_196_122 kI_1 ?_
          refine zg_isub dd_196_123 ?_
          obtain ⟨g6, h⟩ := z_gd h
          refine zg_iald (w := (I 8 ((v2 + (-1 : Int32)) - (1 : Int32)).toNatClampNeg)) dd_196_124 zMs_8 g6 rfl ?_
          refine zg_aload_n dd_196_125 rfl (j := 2) rfl ?_
          refine zg_getR dd_196_126 zl_M_38 zMs_0 rfl zMr_0_13 ?_
          refine zg_iload_n dd_196_129 rfl (j := 0) rfl ?_
          obtain ⟨g7, h⟩ := z_gd h
          refine zg_iald (w := (I 8 (v2 + (-1 : Int32)).toNatClampNeg)) dd_196_130 zMs_8 g7 rfl ?_
          obtain ⟨r8, e9, h⟩ := z_bd h
          refine zg_invS_i (av := [.inl (I 1 v3.toNatClampNeg), .inl (I 8 ((v2 + (-1 : Int32)) - (1 : Int32)).toNatClampNeg), .inl (I 8 (v2 + (-1 : Int32)).toNatClampNeg)]) (st := [.inl ((v2 + (-1 : Int32)) - (1 : Int32)), .inr (.inr (some 8))]) (n := 3) dd_196_131 ca_197 zw_1382 zw_1383 (mt_fm_done e9) rfl ⟨by decide +kernel, by decide⟩ (Nat.le_of_ble_eq_true rfl) ?_
          refine zg_iast dd_196_134 zMs_8 g6 ?_
          refine zg_iinc dd_196_135 (j := 4) rfl (v := (v3 + (1 : Int32))) (by rw [kI_1]) (Nat.le_of_ble_eq_true rfl) (lv' := [(3, .inl (v3 + (1 : Int32))), (2, .inl (v2 + (-1 : Int32))), (4, .inl (I 1 v3.toNatClampNeg)), (0, .inr (.inr (some 0))), (1, .inl v1)]) rfl ?_
          refine zg_goto (tgt := 4) dd_196_138 (by decide) ?_
          refine zg_sub [3, 4, 1, 0] rfl ?_
          exact ih _ _ _ _ h
        · replace h := z_t h q5
          refine zg_aload_n dd_196_78 rfl (j := 1) rfl ?_
          refine zg_getR dd_196_79 zl_M_38 zMs_0 rfl zMr_0_13 ?_
          refine zg_iload_n dd_196_82 rfl (j := 3) rfl ?_
          refine zg_iconst dd_196_83 kI_1 ?_
          refine zg_isub dd_196_84 ?_
          refine zg_aload_n dd_196_85 rfl (j := 1) rfl ?_
          refine zg_getR dd_196_86 zl_M_38 zMs_0 rfl zMr_0_13 ?_
          refine zg_iload_n dd_196_89 rfl (j := 3) rfl ?_
          refine zg_iconst dd_196_90 kI_1 ?_
          refine zg_isub dd_196_91 ?_
          obtain ⟨g10, h⟩ := z_gd h
          refine zg_iald (w := (I 8 (v2 - (1 : Int32)).toNatClampNeg)) dd_196_92 zMs_8 g10 rfl ?_
          refine zg_if_ne (tgt := 100) dd_196_93 (by decide) (fun q11 => ?_) (fun q11 => ?_)
          · replace h := z_f h q11
            refine zg_iconst dd_196_100 kI_0 ?_
            refine zg_iast dd_196_101 zMs_8 g10 ?_
            refine zg_goto (tgt := 135) dd_196_102 (by decide) ?_
            refine zg_iinc dd_196_135 (j := 4) rfl (v := (v3 + (1 : Int32))) (by rw [kI_1]) (Nat.le_of_ble_eq_true rfl) (lv' := [(3, .inl (v3 + (1 : Int32))), (4, .inl (I 1 v3.toNatClampNeg)), (0, .inr (.inr (some 0))), (1, .inl v1), (2, .inl v2)]) rfl ?_
            refine zg_goto (tgt := 4) dd_196_138 (by decide) ?_
            refine zg_sub [2, 3, 4, 0] rfl ?_
            exact ih _ _ _ _ h
          · replace h := z_t h q11
            refine zg_iconst dd_196_96 kI_1 ?_
            refine zg_goto (tgt := 101) dd_196_97 (by decide) ?_
            refine zg_iast dd_196_101 zMs_8 g10 ?_
            refine zg_goto (tgt := 135) dd_196_102 (by decide) ?_
            refine zg_iinc dd_196_135 (j := 4) rfl (v := (v3 + (1 : Int32))) (by rw [kI_1]) (Nat.le_of_ble_eq_true rfl) (lv' := [(3, .inl (v3 + (1 : Int32))), (4, .inl (I 1 v3.toNatClampNeg)), (0, .inr (.inr (some 0))), (1, .inl v1), (2, .inl v2)]) rfl ?_
            refine zg_goto (tgt := 4) dd_196_138 (by decide) ?_
            refine zg_sub [2, 3, 4, 0] rfl ?_
            exact ih _ _ _ _ h
      · replace h := z_f h q4
        refine zg_aload_n dd_196_34 rfl (j := 1) rfl ?_
        refine zg_getR dd_196_35 zl_M_38 zMs_0 rfl zMr_0_13 ?_
        refine zg_iload_n dd_196_38 rfl (j := 3) rfl ?_
        refine zg_iload dd_196_39 (j := 0) rfl ?_
        refine zg_sipush dd_196_41 kS_10000 ?_
        refine zg_icmp_ge (tgt := 52) dd_196_44 (by decide) (fun q12 => ?_) (fun q12 => ?_)
        · replace h := z_t h q12
          refine zg_aload_n dd_196_52 rfl (j := 1) rfl ?_
          refine zg_getR dd_196_53 zl_M_35 zMs_0 rfl zMr_0_12 ?_
          refine zg_iload dd_196_56 (j := 0) rfl ?_
          refine zg_sipush dd_196_58 kS_10000 ?_
          refine zg_isub dd_196_61 ?_
          obtain ⟨g13, h⟩ := z_gd h
          refine zg_iald (w := (I 7 ((I 1 v3.toNatClampNeg) - (10000 : Int32)).toNatClampNeg)) dd_196_62 zMs_7 g13 rfl ?_
          obtain ⟨g14, h⟩ := z_gd h
          refine zg_iast dd_196_63 zMs_8 g14 ?_
          refine zg_iinc dd_196_64 (j := 3) rfl (v := (v2 + (1 : Int32))) (by rw [kI_1]) (Nat.le_of_ble_eq_true rfl) (lv' := [(2, .inl (v2 + (1 : Int32))), (4, .inl (I 1 v3.toNatClampNeg)), (0, .inr (.inr (some 0))), (1, .inl v1), (3, .inl v3)]) rfl ?_
          refine zg_goto (tgt := 135) dd_196_67 (by decide) ?_
          refine zg_iinc dd_196_135 (j := 4) rfl (v := (v3 + (1 : Int32))) (by rw [kI_1]) (Nat.le_of_ble_eq_true rfl) (lv' := [(3, .inl (v3 + (1 : Int32))), (2, .inl (v2 + (1 : Int32))), (4, .inl (I 1 v3.toNatClampNeg)), (0, .inr (.inr (some 0))), (1, .inl v1)]) rfl ?_
          refine zg_goto (tgt := 4) dd_196_138 (by decide) ?_
          refine zg_sub [3, 4, 1, 0] rfl ?_
          exact ih _ _ _ _ h
        · replace h := z_f h q12
          refine zg_iload dd_196_47 (j := 0) rfl ?_
          refine zg_goto (tgt := 63) dd_196_49 (by decide) ?_
          obtain ⟨g15, h⟩ := z_gd h
          refine zg_iast dd_196_63 zMs_8 g15 ?_
          refine zg_iinc dd_196_64 (j := 3) rfl (v := (v2 + (1 : Int32))) (by rw [kI_1]) (Nat.le_of_ble_eq_true rfl) (lv' := [(2, .inl (v2 + (1 : Int32))), (4, .inl (I 1 v3.toNatClampNeg)), (0, .inr (.inr (some 0))), (1, .inl v1), (3, .inl v3)]) rfl ?_
          refine zg_goto (tgt := 135) dd_196_67 (by decide) ?_
          refine zg_iinc dd_196_135 (j := 4) rfl (v := (v3 + (1 : Int32))) (by rw [kI_1]) (Nat.le_of_ble_eq_true rfl) (lv' := [(3, .inl (v3 + (1 : Int32))), (2, .inl (v2 + (1 : Int32))), (4, .inl (I 1 v3.toNatClampNeg)), (0, .inr (.inr (some 0))), (1, .inl v1)]) rfl ?_
          refine zg_goto (tgt := 4) dd_196_138 (by decide) ?_
          refine zg_sub [3, 4, 1, 0] rfl ?_
          exact ih _ _ _ _ h
set_option maxRecDepth 20000 in
theorem mt_fm_worked {I : zI} {a1 : Int32} {res : (Int32 × zI)} (h : fm_worked I a1 = some res) : zM 2 ym_196 [.inr (.inr (some 0)), .inl a1] (zMs, zMr, I) (some (.inl res.1)) (zMs, zMr, res.2) 0 0 := by
  refine zM_of (by decide) (Nat.le_of_ble_eq_true rfl) (lv := [(0, .inr (.inr (some 0))), (1, .inl a1)]) rfl ?_
  rw [fm_worked] at h
  refine zg_iconst dd_196_0 kI_0 ?_
  refine zg_istore_n dd_196_1 rfl (Nat.le_of_ble_eq_true rfl) (lv' := [(2, .inl (0 : Int32)), (0, .inr (.inr (some 0))), (1, .inl a1)]) rfl ?_
  refine zg_iload_n dd_196_2 rfl (j := 2) rfl ?_
  refine zg_istore_n dd_196_3 rfl (Nat.le_of_ble_eq_true rfl) (lv' := [(3, .inl a1), (2, .inl (0 : Int32)), (0, .inr (.inr (some 0))), (1, .inl a1)]) rfl ?_
  refine zg_sub [2, 3, 1, 0] rfl ?_
  refine lt_fm_worked_L4  _ _ _ _ _ h
/-! TurnedLandModel.given[0, None, None, None, None, None] -/
def fm_given_J59 (I : zI) (v1 : Int32) (v2 : Int32) (v3 : Int32) (v4 : Int32) (v6 : Int32) (x0 : Int32) : Option (Int32 × zI) :=
  if v1 = 0 then
    if x0 = 0 then
      (fm_held I v2 (1 : Int32) (999 : Int32)).bind fun r13 =>
      some (r13, I)
    else
      (fm_worked I v6).bind fun r15 =>
      (fm_held r15.2 r15.1 (1 : Int32) (999 : Int32)).bind fun r17 =>
      some (r17, r15.2)
  else
    if x0 = 0 then
      if ((2 : Int32) - (v3 ||| v4)) = 0 then none else
      (fm_held I (v2 / ((2 : Int32) - (v3 ||| v4))) (0 : Int32) (9999 : Int32)).bind fun r6 =>
      some (r6, I)
    else
      (fm_worked I v6).bind fun r8 =>
      (fm_held r8.2 r8.1 (0 : Int32) (9999 : Int32)).bind fun r10 =>
      some (r10, r8.2)
def fm_given (I : zI) (a1 : Int32) (a2 : Int32) (a3 : Int32) (a4 : Int32) (a5 : Int32) : Option (Int32 × zI) :=
  z_guard (zb ((((324 : Int32) + ((62 : Int32) * a1)) + (1 : Int32)) - (1 : Int32)) 448) <|
  if (I 1 ((((324 : Int32) + ((62 : Int32) * a1)) + (1 : Int32)) - (1 : Int32)).toNatClampNeg) ≤ 0 then
    fm_given_J59 (zup (zup (zup (zup I 7 (0 : Int32).toNatClampNeg a2) 7 (1 : Int32).toNatClampNeg a3) 7 (2 : Int32).toNatClampNeg a4) 7 (3 : Int32).toNatClampNeg a5) a1 a2 a3 a4 (((324 : Int32) + ((62 : Int32) * a1)) + (1 : Int32)) (0 : Int32)
  else
    fm_given_J59 (zup (zup (zup (zup I 7 (0 : Int32).toNatClampNeg a2) 7 (1 : Int32).toNatClampNeg a3) 7 (2 : Int32).toNatClampNeg a4) 7 (3 : Int32).toNatClampNeg a5) a1 a2 a3 a4 (((324 : Int32) + ((62 : Int32) * a1)) + (1 : Int32)) (1 : Int32)
set_option maxRecDepth 20000 in
theorem jt_fm_given_J59 {res : (Int32 × zI)} {I : zI} {v1 : Int32} {v2 : Int32} {v3 : Int32} {v4 : Int32} {v6 : Int32} {x0 : Int32} (h : fm_given_J59 I v1 v2 v3 v4 v6 x0 = some res) : zG 3 ym_194 0 0 (some (.inl res.1)) (zMs, zMr, res.2) zMs.length 59 [(0, .inr (.inr (some 0))), (1, .inl v1), (2, .inl v2), (3, .inl v3), (4, .inl v4), (6, .inl v6)] [.inl x0] (zMs, zMr, I) 0 0 := by
  rw [fm_given_J59] at h
  refine zg_istore dd_194_59 (Nat.le_of_ble_eq_true rfl) (lv' := [(7, .inl x0), (0, .inr (.inr (some 0))), (1, .inl v1), (2, .inl v2), (3, .inl v3), (4, .inl v4), (6, .inl v6)]) rfl ?_
  refine zg_iload_n dd_194_61 rfl (j := 2) rfl ?_
  refine zg_if_ne (tgt := 88) dd_194_62 (by decide) (fun q3 => ?_) (fun q3 => ?_)
  · replace h := z_f h q3
    refine zg_iload dd_194_88 (j := 0) rfl ?_
    refine zg_if_eq (tgt := 102) dd_194_90 (by decide) (fun q4 => ?_) (fun q4 => ?_)
    · replace h := z_t h q4
      refine zg_iload_n dd_194_102 rfl (j := 3) rfl ?_
      refine zg_iconst dd_194_103 kI_2 ?_
      refine zg_iload_n dd_194_104 rfl (j := 4) rfl ?_
      refine zg_iload dd_194_105 (j := 5) rfl ?_
      refine zg_ior dd_194_107 ?_
      refine zg_isub dd_194_108 ?_
      rcases z_if h with ⟨_, h⟩ | ⟨g5, h⟩
      · cases h
      refine zg_idiv dd_194_109 g5 ?_
      refine zg_iconst dd_194_110 kI_0 ?_
      refine zg_sipush dd_194_111 kS_9999 ?_
      obtain ⟨r6, e7, h⟩ := z_bd h
      refine zg_invS_i (av := [.inl (v2 / ((2 : Int32) - (v3 ||| v4))), .inl (0 : Int32), .inl (9999 : Int32)]) (st := []) (n := 3) dd_194_114 ca_195 zw_1385 zw_1386 (mt_fm_held e7) rfl ⟨by decide +kernel, by decide⟩ (Nat.le_of_ble_eq_true rfl) ?_
      obtain rfl := Option.some.inj h
      exact zg_iret dd_194_117 rfl
    · replace h := z_f h q4
      refine zg_aload_n dd_194_93 rfl (j := 1) rfl ?_
      refine zg_iload dd_194_94 (j := 6) rfl ?_
      obtain ⟨r8, e9, h⟩ := z_bd h
      refine zg_invV_i (av := [.inl v6]) (st := []) (n := 1) dd_194_96 ca_196 zw_1378 zw_1380 zv_63 zMs_0 zcl_12 rfl (mt_fm_worked e9) rfl ⟨by decide +kernel, by decide⟩ (Nat.le_of_ble_eq_true rfl) ?_
      refine zg_goto (tgt := 110) dd_194_99 (by decide) ?_
      refine zg_iconst dd_194_110 kI_0 ?_
      refine zg_sipush dd_194_111 kS_9999 ?_
      obtain ⟨r10, e11, h⟩ := z_bd h
      refine zg_invS_i (av := [.inl r8.1, .inl (0 : Int32), .inl (9999 : Int32)]) (st := []) (n := 3) dd_194_114 ca_195 zw_1385 zw_1386 (mt_fm_held e11) rfl ⟨by decide +kernel, by decide⟩ (Nat.le_of_ble_eq_true rfl) ?_
      obtain rfl := Option.some.inj h
      exact zg_iret dd_194_117 rfl
  · replace h := z_t h q3
    refine zg_iload dd_194_65 (j := 0) rfl ?_
    refine zg_if_eq (tgt := 79) dd_194_67 (by decide) (fun q12 => ?_) (fun q12 => ?_)
    · replace h := z_t h q12
      refine zg_iload_n dd_194_79 rfl (j := 3) rfl ?_
      refine zg_iconst dd_194_80 kI_1 ?_
      refine zg_sipush dd_194_81 kS_999 ?_
      obtain ⟨r13, e14, h⟩ := z_bd h
      refine zg_invS_i (av := [.inl v2, .inl (1 : Int32), .inl (999 : Int32)]) (st := []) (n := 3) dd_194_84 ca_195 zw_1385 zw_1386 (mt_fm_held e14) rfl ⟨by decide +kernel, by decide⟩ (Nat.le_of_ble_eq_true rfl) ?_
      obtain rfl := Option.some.inj h
      exact zg_iret dd_194_87 rfl
    · replace h := z_f h q12
      refine zg_aload_n dd_194_70 rfl (j := 1) rfl ?_
      refine zg_iload dd_194_71 (j := 6) rfl ?_
      obtain ⟨r15, e16, h⟩ := z_bd h
      refine zg_invV_i (av := [.inl v6]) (st := []) (n := 1) dd_194_73 ca_196 zw_1378 zw_1380 zv_63 zMs_0 zcl_12 rfl (mt_fm_worked e16) rfl ⟨by decide +kernel, by decide⟩ (Nat.le_of_ble_eq_true rfl) ?_
      refine zg_goto (tgt := 80) dd_194_76 (by decide) ?_
      refine zg_iconst dd_194_80 kI_1 ?_
      refine zg_sipush dd_194_81 kS_999 ?_
      obtain ⟨r17, e18, h⟩ := z_bd h
      refine zg_invS_i (av := [.inl r15.1, .inl (1 : Int32), .inl (999 : Int32)]) (st := []) (n := 3) dd_194_84 ca_195 zw_1385 zw_1386 (mt_fm_held e18) rfl ⟨by decide +kernel, by decide⟩ (Nat.le_of_ble_eq_true rfl) ?_
      obtain rfl := Option.some.inj h
      exact zg_iret dd_194_87 rfl
set_option maxRecDepth 20000 in
theorem mt_fm_given {I : zI} {a1 : Int32} {a2 : Int32} {a3 : Int32} {a4 : Int32} {a5 : Int32} {res : (Int32 × zI)} (h : fm_given I a1 a2 a3 a4 a5 = some res) : zM 3 ym_194 [.inr (.inr (some 0)), .inl a1, .inl a2, .inl a3, .inl a4, .inl a5] (zMs, zMr, I) (some (.inl res.1)) (zMs, zMr, res.2) 0 0 := by
  refine zM_of (by decide) (Nat.le_of_ble_eq_true rfl) (lv := [(0, .inr (.inr (some 0))), (1, .inl a1), (2, .inl a2), (3, .inl a3), (4, .inl a4), (5, .inl a5)]) rfl ?_
  rw [fm_given] at h
  refine zg_aload_n dd_194_0 rfl (j := 0) rfl ?_
  refine zg_getR dd_194_1 zl_M_35 zMs_0 rfl zMr_0_12 ?_
  refine zg_iconst dd_194_4 kI_0 ?_
  refine zg_iload_n dd_194_5 rfl (j := 2) rfl ?_
  refine zg_iast dd_194_6 zMs_7 (by decide) ?_
  refine zg_aload_n dd_194_7 rfl (j := 0) rfl ?_
  refine zg_getR dd_194_8 zl_M_35 zMs_0 rfl zMr_0_12 ?_
  refine zg_iconst dd_194_11 kI_1 ?_
  refine zg_iload_n dd_194_12 rfl (j := 3) rfl ?_
  refine zg_iast dd_194_13 zMs_7 (by decide) ?_
  refine zg_aload_n dd_194_14 rfl (j := 0) rfl ?_
  refine zg_getR dd_194_15 zl_M_35 zMs_0 rfl zMr_0_12 ?_
  refine zg_iconst dd_194_18 kI_2 ?_
  refine zg_iload dd_194_19 (j := 4) rfl ?_
  refine zg_iast dd_194_21 zMs_7 (by decide) ?_
  refine zg_aload_n dd_194_22 rfl (j := 0) rfl ?_
  refine zg_getR dd_194_23 zl_M_35 zMs_0 rfl zMr_0_12 ?_
  refine zg_iconst dd_194_26 kI_3 ?_
  refine zg_iload dd_194_27 (j := 5) rfl ?_
  refine zg_iast dd_194_29 zMs_7 (by decide) ?_
  refine zg_sipush dd_194_30 kS_324 ?_
  refine zg_bipush dd_194_33 kB_62 ?_
  refine zg_iload_n dd_194_35 rfl (j := 1) rfl ?_
  refine zg_imul dd_194_36 ?_
  refine zg_iadd dd_194_37 ?_
  refine zg_iconst dd_194_38 kI_1 ?_
  refine zg_iadd dd_194_39 ?_
  refine zg_istore dd_194_40 (Nat.le_of_ble_eq_true rfl) (lv' := [(6, .inl (((324 : Int32) + ((62 : Int32) * a1)) + (1 : Int32))), (0, .inr (.inr (some 0))), (1, .inl a1), (2, .inl a2), (3, .inl a3), (4, .inl a4), (5, .inl a5)]) rfl ?_
  refine zg_aload_n dd_194_42 rfl (j := 1) rfl ?_
  refine zg_getR dd_194_43 zl_M_9 zMs_0 rfl zMr_0_0 ?_
  refine zg_iload dd_194_46 (j := 0) rfl ?_
  refine zg_iconst dd_194_48 kI_1 ?_
  refine zg_isub dd_194_49 ?_
  obtain ⟨g1, h⟩ := z_gd h
  refine zg_iald (w := (I 1 ((((324 : Int32) + ((62 : Int32) * a1)) + (1 : Int32)) - (1 : Int32)).toNatClampNeg)) dd_194_50 zMs_1 g1 rfl ?_
  refine zg_if_le (tgt := 58) dd_194_51 (by decide) (fun q2 => ?_) (fun q2 => ?_)
  · replace h := z_t h q2
    refine zg_iconst dd_194_58 kI_0 ?_
    refine zg_sub [1, 2, 3, 4, 5, 0] rfl ?_
    exact jt_fm_given_J59 h
  · replace h := z_f h q2
    refine zg_iconst dd_194_54 kI_1 ?_
    refine zg_goto (tgt := 59) dd_194_55 (by decide) ?_
    refine zg_sub [1, 2, 3, 4, 5, 0] rfl ?_
    exact jt_fm_given_J59 h
/-! TurnedLandModel.crosses[0, None, None] -/
def fm_crosses (I : zI) (a1 : Int32) (a2 : Int32) : Option (Int32 × zI) :=
  (fm_joinAt I (((4 : Int32) * (a1 / (2 : Int32))) + a2)).bind fun r1 =>
  if 0 ≤ r1 then
    (fm_otherOf I r1 (((4 : Int32) * (a1 / (2 : Int32))) + a2)).bind fun r4 =>
    (fm_joinOf I r1 (2 : Int32)).bind fun r6 =>
    z_guard (zb ((10 : Int32) + (a1 / (2 : Int32))) 448) <|
    z_guard (zb ((10 : Int32) + (r4 / (4 : Int32))) 448) <|
    (fm_given (zup I 0 14 (((2 : Int32) * (r4 / (4 : Int32))) + ((a1 % (2 : Int32)) ^^^ r6))) (0 : Int32) (I 1 ((10 : Int32) + (a1 / (2 : Int32))).toNatClampNeg) (I 1 ((10 : Int32) + (r4 / (4 : Int32))).toNatClampNeg) (a1 % (2 : Int32)) r6).bind fun r10 =>
    some ((1 : Int32), (zup r10.2 0 15 r10.1))
  else
    some ((0 : Int32), I)
set_option maxRecDepth 20000 in
theorem mt_fm_crosses {I : zI} {a1 : Int32} {a2 : Int32} {res : (Int32 × zI)} (h : fm_crosses I a1 a2 = some res) : zM 4 ym_193 [.inr (.inr (some 0)), .inl a1, .inl a2] (zMs, zMr, I) (some (.inl res.1)) (zMs, zMr, res.2) 0 0 := by
  refine zM_of (by decide) (Nat.le_of_ble_eq_true rfl) (lv := [(0, .inr (.inr (some 0))), (1, .inl a1), (2, .inl a2)]) rfl ?_
  rw [fm_crosses] at h
  refine zg_iconst dd_193_0 kI_4 ?_
  refine zg_iload_n dd_193_1 rfl (j := 1) rfl ?_
  refine zg_iconst dd_193_2 kI_2 ?_
  refine zg_idiv dd_193_3 (by decide) ?_
  refine zg_imul dd_193_4 ?_
  refine zg_iload_n dd_193_5 rfl (j := 2) rfl ?_
  refine zg_iadd dd_193_6 ?_
  refine zg_istore_n dd_193_7 rfl (Nat.le_of_ble_eq_true rfl) (lv' := [(3, .inl (((4 : Int32) * (a1 / (2 : Int32))) + a2)), (0, .inr (.inr (some 0))), (1, .inl a1), (2, .inl a2)]) rfl ?_
  refine zg_aload_n dd_193_8 rfl (j := 1) rfl ?_
  refine zg_iload_n dd_193_9 rfl (j := 0) rfl ?_
  obtain ⟨r1, e2, h⟩ := z_bd h
  refine zg_invV_i (av := [.inl (((4 : Int32) * (a1 / (2 : Int32))) + a2)]) (st := []) (n := 1) dd_193_10 ca_149 zw_1170 zw_1172 zv_36 zMs_0 zcl_12 rfl (mt_fm_joinAt e2) rfl ⟨by decide +kernel, by decide⟩ (Nat.le_of_ble_eq_true rfl) ?_
  refine zg_istore dd_193_13 (Nat.le_of_ble_eq_true rfl) (lv' := [(4, .inl r1), (3, .inl (((4 : Int32) * (a1 / (2 : Int32))) + a2)), (0, .inr (.inr (some 0))), (1, .inl a1), (2, .inl a2)]) rfl ?_
  refine zg_iload dd_193_15 (j := 0) rfl ?_
  refine zg_if_ge (tgt := 22) dd_193_17 (by decide) (fun q3 => ?_) (fun q3 => ?_)
  · replace h := z_t h q3
    refine zg_aload_n dd_193_22 rfl (j := 2) rfl ?_
    refine zg_iload dd_193_23 (j := 0) rfl ?_
    refine zg_iload_n dd_193_25 rfl (j := 1) rfl ?_
    obtain ⟨r4, e5, h⟩ := z_bd h
    refine zg_invV_i (av := [.inl r1, .inl (((4 : Int32) * (a1 / (2 : Int32))) + a2)]) (st := []) (n := 2) dd_193_26 ca_156 zw_1200 zw_1202 zv_39 zMs_0 zcl_12 rfl (mt_fm_otherOf e5) rfl ⟨by decide +kernel, by decide⟩ (Nat.le_of_ble_eq_true rfl) ?_
    refine zg_iconst dd_193_29 kI_4 ?_
    refine zg_idiv dd_193_30 (by decide) ?_
    refine zg_istore dd_193_31 (Nat.le_of_ble_eq_true rfl) (lv' := [(5, .inl (r4 / (4 : Int32))), (4, .inl r1), (3, .inl (((4 : Int32) * (a1 / (2 : Int32))) + a2)), (0, .inr (.inr (some 0))), (1, .inl a1), (2, .inl a2)]) rfl ?_
    refine zg_iload_n dd_193_33 rfl (j := 4) rfl ?_
    refine zg_iconst dd_193_34 kI_2 ?_
    refine zg_irem dd_193_35 (by decide) ?_
    refine zg_istore dd_193_36 (Nat.le_of_ble_eq_true rfl) (lv' := [(6, .inl (a1 % (2 : Int32))), (5, .inl (r4 / (4 : Int32))), (4, .inl r1), (3, .inl (((4 : Int32) * (a1 / (2 : Int32))) + a2)), (0, .inr (.inr (some 0))), (1, .inl a1), (2, .inl a2)]) rfl ?_
    refine zg_aload_n dd_193_38 rfl (j := 4) rfl ?_
    refine zg_iload dd_193_39 (j := 2) rfl ?_
    refine zg_iconst dd_193_41 kI_2 ?_
    obtain ⟨r6, e7, h⟩ := z_bd h
    refine zg_invV_i (av := [.inl r1, .inl (2 : Int32)]) (st := []) (n := 2) dd_193_42 ca_150 zw_1174 zw_1176 zv_37 zMs_0 zcl_12 rfl (mt_fm_joinOf e7) rfl ⟨by decide +kernel, by decide⟩ (Nat.le_of_ble_eq_true rfl) ?_
    refine zg_istore dd_193_45 (Nat.le_of_ble_eq_true rfl) (lv' := [(7, .inl r6), (6, .inl (a1 % (2 : Int32))), (5, .inl (r4 / (4 : Int32))), (4, .inl r1), (3, .inl (((4 : Int32) * (a1 / (2 : Int32))) + a2)), (0, .inr (.inr (some 0))), (1, .inl a1), (2, .inl a2)]) rfl ?_
    refine zg_aload_n dd_193_47 rfl (j := 5) rfl ?_
    refine zg_iconst dd_193_48 kI_2 ?_
    refine zg_iload dd_193_49 (j := 2) rfl ?_
    refine zg_imul dd_193_51 ?_
    refine zg_iload dd_193_52 (j := 1) rfl ?_
    refine zg_iload dd_193_54 (j := 0) rfl ?_
    refine zg_ixor dd_193_56 ?_
    refine zg_iadd dd_193_57 ?_
    refine zg_putI dd_193_58 zp_M_209 zMs_0 rfl (zSt_int _) ?_
    refine zg_aload_n dd_193_61 rfl (j := 5) rfl ?_
    refine zg_aload_n dd_193_62 rfl (j := 5) rfl ?_
    refine zg_iconst dd_193_63 kI_0 ?_
    refine zg_aload_n dd_193_64 rfl (j := 5) rfl ?_
    refine zg_getR dd_193_65 zl_M_9 zMs_0 rfl zMr_0_0 ?_
    refine zg_bipush dd_193_68 kB_10 ?_
    refine zg_iload_n dd_193_70 rfl (j := 6) rfl ?_
    refine zg_iconst dd_193_71 kI_2 ?_
    refine zg_idiv dd_193_72 (by decide) ?_
    refine zg_iadd dd_193_73 ?_
    obtain ⟨g8, h⟩ := z_gd h
    refine zg_iald (w := (I 1 ((10 : Int32) + (a1 / (2 : Int32))).toNatClampNeg)) dd_193_74 zMs_1 g8 rfl ?_
    refine zg_aload_n dd_193_75 rfl (j := 5) rfl ?_
    refine zg_getR dd_193_76 zl_M_9 zMs_0 rfl zMr_0_0 ?_
    refine zg_bipush dd_193_79 kB_10 ?_
    refine zg_iload dd_193_81 (j := 2) rfl ?_
    refine zg_iadd dd_193_83 ?_
    obtain ⟨g9, h⟩ := z_gd h
    refine zg_iald (w := (I 1 ((10 : Int32) + (r4 / (4 : Int32))).toNatClampNeg)) dd_193_84 zMs_1 g9 rfl ?_
    refine zg_iload dd_193_85 (j := 1) rfl ?_
    refine zg_iload dd_193_87 (j := 0) rfl ?_
    obtain ⟨r10, e11, h⟩ := z_bd h
    refine zg_invV_i (av := [.inl (0 : Int32), .inl (I 1 ((10 : Int32) + (a1 / (2 : Int32))).toNatClampNeg), .inl (I 1 ((10 : Int32) + (r4 / (4 : Int32))).toNatClampNeg), .inl (a1 % (2 : Int32)), .inl r6]) (st := [.inr (.inr (some 0))]) (n := 5) dd_193_89 ca_194 zw_1374 zw_1376 zv_62 zMs_0 zcl_12 rfl (mt_fm_given e11) rfl ⟨by decide +kernel, by decide⟩ (Nat.le_of_ble_eq_true rfl) ?_
    refine zg_putI dd_193_92 zp_M_216 zMs_0 rfl (zSt_int _) ?_
    refine zg_iconst dd_193_95 kI_1 ?_
    obtain rfl := Option.some.inj h
    exact zg_zret dd_193_96 rfl zSt_b1.1
  · replace h := z_f h q3
    refine zg_iconst dd_193_20 kI_0 ?_
    obtain rfl := Option.some.inj h
    exact zg_zret dd_193_21 rfl zSt_b0.1
/-! TurnedLandModel.findSoonest[0, None] -/
def fm_findSoonest_L56 (k134 : Int32 → Int32 → zI → Option zI) : Nat → Int32 → Int32 → Int32 → zI → Option zI
  | 0, _, _, _, _ => none
  | nf + 1, v2, v3, v4, I =>
    if (4 : Int32) ≤ v4 then
      k134 v2 v3 I
    else
      z_guard (zb v3 16) <|
      if (100000000 : Int32) ≤ (I 9 v3.toNatClampNeg) then
        fm_findSoonest_L56 k134 nf v2 v3 (v4 + (1 : Int32)) I
      else
        (fm_crosses I v3 v4).bind fun r7 =>
        if r7.1 = 0 then
          fm_findSoonest_L56 k134 nf v2 v3 (v4 + (1 : Int32)) r7.2
        else
          z_guard (zb (r7.2 0 14) 16) <|
          if (r7.2 9 (r7.2 0 14).toNatClampNeg) ≤ ((r7.2 9 v3.toNatClampNeg) + (r7.2 0 15)) then
            fm_findSoonest_L56 k134 nf v2 v3 (v4 + (1 : Int32)) r7.2
          else
            fm_findSoonest_L56 k134 nf (1 : Int32) v3 (v4 + (1 : Int32)) (zup r7.2 9 (r7.2 0 14).toNatClampNeg ((r7.2 9 v3.toNatClampNeg) + (r7.2 0 15)))
def fm_findSoonest_L41 (k140 : Int32 → zI → Option zI) : Nat → Int32 → Int32 → zI → Option zI
  | 0, _, _, _ => none
  | nf + 1, v2, v3, I =>
    if ((2 : Int32) * (I 1 (0 : Int32).toNatClampNeg)) ≤ v3 then
      k140 v2 I
    else
      fm_findSoonest_L56
        (fun (u12 : Int32) (u13 : Int32) (J14 : zI) =>
          fm_findSoonest_L41 k140 nf u12 (u13 + (1 : Int32)) J14
        )
        100 v2 v3 (0 : Int32) I
def fm_findSoonest_L33 : Nat → Int32 → zI → Option zI
  | 0, _, _ => none
  | nf + 1, v2, I =>
    if v2 = 0 then
      some I
    else
      fm_findSoonest_L41
        (fun (u15 : Int32) (J16 : zI) =>
          fm_findSoonest_L33 nf u15 J16
        )
        100 (0 : Int32) (0 : Int32) I
def fm_findSoonest_L2 : Nat → Int32 → Int32 → zI → Option zI
  | 0, _, _, _ => none
  | nf + 1, v1, v2, I =>
    if (16 : Int32) ≤ v2 then
      fm_findSoonest_L33
        100 (1 : Int32) I
    else
      if v2 = v1 then
        z_guard (zb v2 16) <|
        fm_findSoonest_L2 nf v1 (v2 + (1 : Int32)) (zup I 9 v2.toNatClampNeg (0 : Int32))
      else
        z_guard (zb v2 16) <|
        fm_findSoonest_L2 nf v1 (v2 + (1 : Int32)) (zup I 9 v2.toNatClampNeg (100000000 : Int32))
def fm_findSoonest (I : zI) (a1 : Int32) : Option zI :=
  fm_findSoonest_L2
    100 a1 (0 : Int32) I
set_option maxRecDepth 20000 in
theorem lt_fm_findSoonest_L56 {res : zI} {k134 : Int32 → Int32 → zI → Option zI} (hk134 : ∀ (v2 : Int32) (v3 : Int32) (J : zI), k134 v2 v3 J = some res → zG 5 ym_192 0 0 none (zMs, zMr, res) zMs.length 134 [(0, .inr (.inr (some 0))), (2, .inl v2), (3, .inl v3)] [] (zMs, zMr, J) 0 0) : ∀ (nf : Nat) (v2 : Int32) (v3 : Int32) (v4 : Int32) (I : zI), fm_findSoonest_L56 k134 nf v2 v3 v4 I = some res → zG 5 ym_192 0 0 none (zMs, zMr, res) zMs.length 56 [(0, .inr (.inr (some 0))), (2, .inl v2), (3, .inl v3), (4, .inl v4)] [] (zMs, zMr, I) 0 0 := by
  intro nf
  induction nf with
  | zero =>
    intro v2 v3 v4 I h
    have h2 : none = some res := h
    cases h2
  | succ nf ih =>
    intro v2 v3 v4 I h
    rw [fm_findSoonest_L56] at h
    refine zg_iload dd_192_56 (j := 3) rfl ?_
    refine zg_iconst dd_192_58 kI_4 ?_
    refine zg_icmp_ge (tgt := 134) dd_192_59 (by decide) (fun q4 => ?_) (fun q4 => ?_)
    · replace h := z_t h q4
      refine zg_sub [0, 1, 2] rfl ?_
      exact hk134 _ _ _ h
    · replace h := z_f h q4
      refine zg_aload_n dd_192_62 rfl (j := 0) rfl ?_
      refine zg_getR dd_192_63 zl_M_41 zMs_0 rfl zMr_0_16 ?_
      refine zg_iload_n dd_192_66 rfl (j := 2) rfl ?_
      obtain ⟨g5, h⟩ := z_gd h
      refine zg_iald (w := (I 9 v3.toNatClampNeg)) dd_192_67 zMs_9 g5 rfl ?_
      refine zg_ldc dd_192_68 zw_1369 ?_
      refine zg_icmp_ge (tgt := 128) dd_192_70 (by decide) (fun q6 => ?_) (fun q6 => ?_)
      · replace h := z_t h q6
        refine zg_iinc dd_192_128 (j := 3) rfl (v := (v4 + (1 : Int32))) (by rw [kI_1]) (Nat.le_of_ble_eq_true rfl) (lv' := [(4, .inl (v4 + (1 : Int32))), (0, .inr (.inr (some 0))), (2, .inl v2), (3, .inl v3)]) rfl ?_
        refine zg_goto (tgt := 56) dd_192_131 (by decide) ?_
        refine zg_sub [1, 2, 3, 0] rfl ?_
        exact ih _ _ _ _ h
      · replace h := z_f h q6
        refine zg_aload_n dd_192_73 rfl (j := 0) rfl ?_
        refine zg_iload_n dd_192_74 rfl (j := 2) rfl ?_
        refine zg_iload dd_192_75 (j := 3) rfl ?_
        obtain ⟨r7, e8, h⟩ := z_bd h
        refine zg_invV_i (av := [.inl v3, .inl v4]) (st := []) (n := 2) dd_192_77 ca_193 zw_1370 zw_1372 zv_61 zMs_0 zcl_12 rfl (mt_fm_crosses e8) rfl ⟨by decide +kernel, by decide⟩ (Nat.le_of_ble_eq_true rfl) ?_
        refine zg_if_eq (tgt := 128) dd_192_80 (by decide) (fun q9 => ?_) (fun q9 => ?_)
        · replace h := z_t h q9
          refine zg_iinc dd_192_128 (j := 3) rfl (v := (v4 + (1 : Int32))) (by rw [kI_1]) (Nat.le_of_ble_eq_true rfl) (lv' := [(4, .inl (v4 + (1 : Int32))), (0, .inr (.inr (some 0))), (2, .inl v2), (3, .inl v3)]) rfl ?_
          refine zg_goto (tgt := 56) dd_192_131 (by decide) ?_
          refine zg_sub [1, 2, 3, 0] rfl ?_
          exact ih _ _ _ _ h
        · replace h := z_f h q9
          refine zg_aload_n dd_192_83 rfl (j := 0) rfl ?_
          refine zg_getR dd_192_84 zl_M_41 zMs_0 rfl zMr_0_16 ?_
          refine zg_iload_n dd_192_87 rfl (j := 2) rfl ?_
          refine zg_iald (w := (r7.2 9 v3.toNatClampNeg)) dd_192_88 zMs_9 g5 rfl ?_
          refine zg_aload_n dd_192_89 rfl (j := 0) rfl ?_
          refine zg_getI (x := (r7.2 0 15)) dd_192_90 zl_M_216 zMs_0 rfl rfl ?_
          refine zg_iadd dd_192_93 ?_
          refine zg_aload_n dd_192_94 rfl (j := 0) rfl ?_
          refine zg_getR dd_192_95 zl_M_41 zMs_0 rfl zMr_0_16 ?_
          refine zg_aload_n dd_192_98 rfl (j := 0) rfl ?_
          refine zg_getI (x := (r7.2 0 14)) dd_192_99 zl_M_209 zMs_0 rfl rfl ?_
          obtain ⟨g10, h⟩ := z_gd h
          refine zg_iald (w := (r7.2 9 (r7.2 0 14).toNatClampNeg)) dd_192_102 zMs_9 g10 rfl ?_
          refine zg_icmp_ge (tgt := 128) dd_192_103 (by decide) (fun q11 => ?_) (fun q11 => ?_)
          · replace h := z_t h q11
            refine zg_iinc dd_192_128 (j := 3) rfl (v := (v4 + (1 : Int32))) (by rw [kI_1]) (Nat.le_of_ble_eq_true rfl) (lv' := [(4, .inl (v4 + (1 : Int32))), (0, .inr (.inr (some 0))), (2, .inl v2), (3, .inl v3)]) rfl ?_
            refine zg_goto (tgt := 56) dd_192_131 (by decide) ?_
            refine zg_sub [1, 2, 3, 0] rfl ?_
            exact ih _ _ _ _ h
          · replace h := z_f h q11
            refine zg_aload_n dd_192_106 rfl (j := 0) rfl ?_
            refine zg_getR dd_192_107 zl_M_41 zMs_0 rfl zMr_0_16 ?_
            refine zg_aload_n dd_192_110 rfl (j := 0) rfl ?_
            refine zg_getI (x := (r7.2 0 14)) dd_192_111 zl_M_209 zMs_0 rfl rfl ?_
            refine zg_aload_n dd_192_114 rfl (j := 0) rfl ?_
            refine zg_getR dd_192_115 zl_M_41 zMs_0 rfl zMr_0_16 ?_
            refine zg_iload_n dd_192_118 rfl (j := 2) rfl ?_
            refine zg_iald (w := (r7.2 9 v3.toNatClampNeg)) dd_192_119 zMs_9 g5 rfl ?_
            refine zg_aload_n dd_192_120 rfl (j := 0) rfl ?_
            refine zg_getI (x := (r7.2 0 15)) dd_192_121 zl_M_216 zMs_0 rfl rfl ?_
            refine zg_iadd dd_192_124 ?_
            refine zg_iast dd_192_125 zMs_9 g10 ?_
            refine zg_iconst dd_192_126 kI_1 ?_
            refine zg_istore_n dd_192_127 rfl (Nat.le_of_ble_eq_true rfl) (lv' := [(2, .inl (1 : Int32)), (0, .inr (.inr (some 0))), (3, .inl v3), (4, .inl v4)]) rfl ?_
            refine zg_iinc dd_192_128 (j := 3) rfl (v := (v4 + (1 : Int32))) (by rw [kI_1]) (Nat.le_of_ble_eq_true rfl) (lv' := [(4, .inl (v4 + (1 : Int32))), (2, .inl (1 : Int32)), (0, .inr (.inr (some 0))), (3, .inl v3)]) rfl ?_
            refine zg_goto (tgt := 56) dd_192_131 (by decide) ?_
            refine zg_sub [2, 1, 3, 0] rfl ?_
            exact ih _ _ _ _ h
set_option maxRecDepth 20000 in
theorem lt_fm_findSoonest_L41 {res : zI} {k140 : Int32 → zI → Option zI} (hk140 : ∀ (v2 : Int32) (J : zI), k140 v2 J = some res → zG 5 ym_192 0 0 none (zMs, zMr, res) zMs.length 140 [(0, .inr (.inr (some 0))), (2, .inl v2)] [] (zMs, zMr, J) 0 0) : ∀ (nf : Nat) (v2 : Int32) (v3 : Int32) (I : zI), fm_findSoonest_L41 k140 nf v2 v3 I = some res → zG 5 ym_192 0 0 none (zMs, zMr, res) zMs.length 41 [(0, .inr (.inr (some 0))), (2, .inl v2), (3, .inl v3)] [] (zMs, zMr, I) 0 0 := by
  intro nf
  induction nf with
  | zero =>
    intro v2 v3 I h
    have h2 : none = some res := h
    cases h2
  | succ nf ih =>
    intro v2 v3 I h
    rw [fm_findSoonest_L41] at h
    refine zg_iload_n dd_192_41 rfl (j := 2) rfl ?_
    refine zg_iconst dd_192_42 kI_2 ?_
    refine zg_aload_n dd_192_43 rfl (j := 0) rfl ?_
    refine zg_getR dd_192_44 zl_M_9 zMs_0 rfl zMr_0_0 ?_
    refine zg_iconst dd_192_47 kI_0 ?_
    refine zg_iald (w := (I 1 (0 : Int32).toNatClampNeg)) dd_192_48 zMs_1 (by decide) rfl ?_
    refine zg_imul dd_192_49 ?_
    refine zg_icmp_ge (tgt := 140) dd_192_50 (by decide) (fun q3 => ?_) (fun q3 => ?_)
    · replace h := z_t h q3
      refine zg_sub [0, 1] rfl ?_
      exact hk140 _ _ h
    · replace h := z_f h q3
      refine zg_iconst dd_192_53 kI_0 ?_
      refine zg_istore dd_192_54 (Nat.le_of_ble_eq_true rfl) (lv' := [(4, .inl (0 : Int32)), (0, .inr (.inr (some 0))), (2, .inl v2), (3, .inl v3)]) rfl ?_
      refine zg_sub [1, 2, 3, 0] rfl ?_
      refine lt_fm_findSoonest_L56 ?_ _ _ _ _ _ h
      · intro u12 u13 J14 h
        refine zg_iinc dd_192_134 (j := 2) rfl (v := (u13 + (1 : Int32))) (by rw [kI_1]) (Nat.le_of_ble_eq_true rfl) (lv' := [(3, .inl (u13 + (1 : Int32))), (0, .inr (.inr (some 0))), (2, .inl u12)]) rfl ?_
        refine zg_goto (tgt := 41) dd_192_137 (by decide) ?_
        refine zg_sub [1, 2, 0] rfl ?_
        exact ih _ _ _ h
set_option maxRecDepth 20000 in
theorem lt_fm_findSoonest_L33 {res : zI} : ∀ (nf : Nat) (v2 : Int32) (I : zI), fm_findSoonest_L33 nf v2 I = some res → zG 5 ym_192 0 0 none (zMs, zMr, res) zMs.length 33 [(0, .inr (.inr (some 0))), (2, .inl v2)] [] (zMs, zMr, I) 0 0 := by
  intro nf
  induction nf with
  | zero =>
    intro v2 I h
    have h2 : none = some res := h
    cases h2
  | succ nf ih =>
    intro v2 I h
    rw [fm_findSoonest_L33] at h
    refine zg_iload_n dd_192_33 rfl (j := 1) rfl ?_
    refine zg_if_eq (tgt := 143) dd_192_34 (by decide) (fun q2 => ?_) (fun q2 => ?_)
    · replace h := z_t h q2
      obtain rfl := Option.some.inj h
      exact zg_vret dd_192_143 rfl
    · replace h := z_f h q2
      refine zg_iconst dd_192_37 kI_0 ?_
      refine zg_istore_n dd_192_38 rfl (Nat.le_of_ble_eq_true rfl) (lv' := [(2, .inl (0 : Int32)), (0, .inr (.inr (some 0)))]) rfl ?_
      refine zg_iconst dd_192_39 kI_0 ?_
      refine zg_istore_n dd_192_40 rfl (Nat.le_of_ble_eq_true rfl) (lv' := [(3, .inl (0 : Int32)), (2, .inl (0 : Int32)), (0, .inr (.inr (some 0)))]) rfl ?_
      refine zg_sub [2, 1, 0] rfl ?_
      refine lt_fm_findSoonest_L41 ?_ _ _ _ _ h
      · intro u15 J16 h
        refine zg_goto (tgt := 33) dd_192_140 (by decide) ?_
        refine zg_sub [0, 1] rfl ?_
        exact ih _ _ h
set_option maxRecDepth 20000 in
theorem lt_fm_findSoonest_L2 {res : zI} : ∀ (nf : Nat) (v1 : Int32) (v2 : Int32) (I : zI), fm_findSoonest_L2 nf v1 v2 I = some res → zG 5 ym_192 0 0 none (zMs, zMr, res) zMs.length 2 [(0, .inr (.inr (some 0))), (1, .inl v1), (2, .inl v2)] [] (zMs, zMr, I) 0 0 := by
  intro nf
  induction nf with
  | zero =>
    intro v1 v2 I h
    have h2 : none = some res := h
    cases h2
  | succ nf ih =>
    intro v1 v2 I h
    rw [fm_findSoonest_L2] at h
    refine zg_iload_n dd_192_2 rfl (j := 2) rfl ?_
    refine zg_bipush dd_192_3 kB_16 ?_
    refine zg_icmp_ge (tgt := 31) dd_192_5 (by decide) (fun q1 => ?_) (fun q1 => ?_)
    · replace h := z_t h q1
      refine zg_iconst dd_192_31 kI_1 ?_
      refine zg_istore_n dd_192_32 rfl (Nat.le_of_ble_eq_true rfl) (lv' := [(2, .inl (1 : Int32)), (0, .inr (.inr (some 0))), (1, .inl v1)]) rfl ?_
      refine zg_sub [1, 0] rfl ?_
      refine lt_fm_findSoonest_L33  _ _ _ h
    · replace h := z_f h q1
      refine zg_aload_n dd_192_8 rfl (j := 0) rfl ?_
      refine zg_getR dd_192_9 zl_M_41 zMs_0 rfl zMr_0_16 ?_
      refine zg_iload_n dd_192_12 rfl (j := 2) rfl ?_
      refine zg_iload_n dd_192_13 rfl (j := 2) rfl ?_
      refine zg_iload_n dd_192_14 rfl (j := 1) rfl ?_
      refine zg_icmp_ne (tgt := 22) dd_192_15 (by decide) (fun q17 => ?_) (fun q17 => ?_)
      · replace h := z_f h q17
        refine zg_ldc dd_192_22 zw_1369 ?_
        obtain ⟨g18, h⟩ := z_gd h
        refine zg_iast dd_192_24 zMs_9 g18 ?_
        refine zg_iinc dd_192_25 (j := 2) rfl (v := (v2 + (1 : Int32))) (by rw [kI_1]) (Nat.le_of_ble_eq_true rfl) (lv' := [(2, .inl (v2 + (1 : Int32))), (0, .inr (.inr (some 0))), (1, .inl v1)]) rfl ?_
        refine zg_goto (tgt := 2) dd_192_28 (by decide) ?_
        refine zg_sub [1, 2, 0] rfl ?_
        exact ih _ _ _ h
      · replace h := z_t h q17
        refine zg_iconst dd_192_18 kI_0 ?_
        refine zg_goto (tgt := 24) dd_192_19 (by decide) ?_
        obtain ⟨g19, h⟩ := z_gd h
        refine zg_iast dd_192_24 zMs_9 g19 ?_
        refine zg_iinc dd_192_25 (j := 2) rfl (v := (v2 + (1 : Int32))) (by rw [kI_1]) (Nat.le_of_ble_eq_true rfl) (lv' := [(2, .inl (v2 + (1 : Int32))), (0, .inr (.inr (some 0))), (1, .inl v1)]) rfl ?_
        refine zg_goto (tgt := 2) dd_192_28 (by decide) ?_
        refine zg_sub [1, 2, 0] rfl ?_
        exact ih _ _ _ h
set_option maxRecDepth 20000 in
theorem mt_fm_findSoonest {I : zI} {a1 : Int32} {res : zI} (h : fm_findSoonest I a1 = some res) : zM 5 ym_192 [.inr (.inr (some 0)), .inl a1] (zMs, zMr, I) none (zMs, zMr, res) 0 0 := by
  refine zM_of (by decide) (Nat.le_of_ble_eq_true rfl) (lv := [(0, .inr (.inr (some 0))), (1, .inl a1)]) rfl ?_
  rw [fm_findSoonest] at h
  refine zg_iconst dd_192_0 kI_0 ?_
  refine zg_istore_n dd_192_1 rfl (Nat.le_of_ble_eq_true rfl) (lv' := [(2, .inl (0 : Int32)), (0, .inr (.inr (some 0))), (1, .inl a1)]) rfl ?_
  refine zg_sub [1, 2, 0] rfl ?_
  refine lt_fm_findSoonest_L2  _ _ _ _ h
/-! TurnedLandModel.soonestOf[0, None, None] -/
def fm_soonestOf (I : zI) (a1 : Int32) (a2 : Int32) : Option (Int32 × zI) :=
  (fm_findSoonest I a1).bind fun r1 =>
  z_guard (zb a2 16) <|
  some ((r1 9 a2.toNatClampNeg), r1)
set_option maxRecDepth 20000 in
theorem mt_fm_soonestOf {I : zI} {a1 : Int32} {a2 : Int32} {res : (Int32 × zI)} (h : fm_soonestOf I a1 a2 = some res) : zM 6 ym_191 [.inr (.inr (some 0)), .inl a1, .inl a2] (zMs, zMr, I) (some (.inl res.1)) (zMs, zMr, res.2) 0 0 := by
  refine zM_of (by decide) (Nat.le_of_ble_eq_true rfl) (lv := [(0, .inr (.inr (some 0))), (1, .inl a1), (2, .inl a2)]) rfl ?_
  rw [fm_soonestOf] at h
  refine zg_aload_n dd_191_0 rfl (j := 0) rfl ?_
  refine zg_iload_n dd_191_1 rfl (j := 1) rfl ?_
  obtain ⟨r1, e2, h⟩ := z_bd h
  refine zg_invV_v (av := [.inl a1]) (st := []) (n := 1) dd_191_2 ca_192 zw_1365 zw_1367 zv_60 zMs_0 zcl_12 rfl (mt_fm_findSoonest e2) rfl ⟨by decide +kernel, by decide⟩ (Nat.le_of_ble_eq_true rfl) ?_
  refine zg_aload_n dd_191_5 rfl (j := 0) rfl ?_
  refine zg_getR dd_191_6 zl_M_41 zMs_0 rfl zMr_0_16 ?_
  refine zg_iload_n dd_191_9 rfl (j := 2) rfl ?_
  obtain ⟨g3, h⟩ := z_gd h
  refine zg_iald (w := (r1 9 a2.toNatClampNeg)) dd_191_10 zMs_9 g3 rfl ?_
  obtain rfl := Option.some.inj h
  exact zg_iret dd_191_11 rfl
/-! TurnedLandModel.soonest(0, None, None) -/
def fm_soonest (I : zI) (a1 : Int32) (a2 : Int32) : Option (Int32 × zI) :=
  (fm_isPlace I a1).bind fun r1 =>
  if r1 = 0 then
    (fm_finding I (-1000001 : Int32)).bind fun r4 =>
    some (r4.1, r4.2)
  else
    (fm_isPlace I a2).bind fun r6 =>
    if r6 = 0 then
      (fm_finding I (-1000001 : Int32)).bind fun r14 =>
      some (r14.1, r14.2)
    else
      (fm_soonestOf I a1 a2).bind fun r9 =>
      if r9.1 < (100000000 : Int32) then
        some (r9.1, r9.2)
      else
        (fm_finding r9.2 (-1000002 : Int32)).bind fun r12 =>
        some (r12.1, r12.2)
set_option maxRecDepth 20000 in
theorem mt_fm_soonest {I : zI} {a1 : Int32} {a2 : Int32} {res : (Int32 × zI)} (h : fm_soonest I a1 a2 = some res) : zM 7 ym_189 [.inr (.inr (some 0)), .inl a1, .inl a2] (zMs, zMr, I) (some (.inl res.1)) (zMs, zMr, res.2) 0 0 := by
  refine zM_of (by decide) (Nat.le_of_ble_eq_true rfl) (lv := [(0, .inr (.inr (some 0))), (1, .inl a1), (2, .inl a2)]) rfl ?_
  rw [fm_soonest] at h
  refine zg_aload_n dd_189_0 rfl (j := 0) rfl ?_
  refine zg_iload_n dd_189_1 rfl (j := 1) rfl ?_
  obtain ⟨r1, e2, h⟩ := z_bd h
  refine zg_invV_i (av := [.inl a1]) (st := []) (n := 1) dd_189_2 ca_190 zw_1357 zw_1359 zv_58 zMs_0 zcl_12 rfl (mt_fm_isPlace e2) rfl ⟨by decide +kernel, by decide⟩ (Nat.le_of_ble_eq_true rfl) ?_
  refine zg_if_eq (tgt := 16) dd_189_5 (by decide) (fun q3 => ?_) (fun q3 => ?_)
  · replace h := z_t h q3
    refine zg_aload_n dd_189_16 rfl (j := 0) rfl ?_
    refine zg_ldc dd_189_17 zw_1139 ?_
    obtain ⟨r4, e5, h⟩ := z_bd h
    refine zg_invV_i (av := [.inl (-1000001 : Int32)]) (st := []) (n := 1) dd_189_19 ca_142 zw_1140 zw_1142 zv_31 zMs_0 zcl_12 rfl (mt_fm_finding e5) rfl ⟨by decide +kernel, by decide⟩ (Nat.le_of_ble_eq_true rfl) ?_
    obtain rfl := Option.some.inj h
    exact zg_iret dd_189_22 rfl
  · replace h := z_f h q3
    refine zg_aload_n dd_189_8 rfl (j := 0) rfl ?_
    refine zg_iload_n dd_189_9 rfl (j := 2) rfl ?_
    obtain ⟨r6, e7, h⟩ := z_bd h
    refine zg_invV_i (av := [.inl a2]) (st := []) (n := 1) dd_189_10 ca_190 zw_1357 zw_1359 zv_58 zMs_0 zcl_12 rfl (mt_fm_isPlace e7) rfl ⟨by decide +kernel, by decide⟩ (Nat.le_of_ble_eq_true rfl) ?_
    refine zg_if_ne (tgt := 23) dd_189_13 (by decide) (fun q8 => ?_) (fun q8 => ?_)
    · replace h := z_f h q8
      refine zg_aload_n dd_189_23 rfl (j := 0) rfl ?_
      refine zg_iload_n dd_189_24 rfl (j := 1) rfl ?_
      refine zg_iload_n dd_189_25 rfl (j := 2) rfl ?_
      obtain ⟨r9, e10, h⟩ := z_bd h
      refine zg_invV_i (av := [.inl a1, .inl a2]) (st := []) (n := 2) dd_189_26 ca_191 zw_1361 zw_1363 zv_59 zMs_0 zcl_12 rfl (mt_fm_soonestOf e10) rfl ⟨by decide +kernel, by decide⟩ (Nat.le_of_ble_eq_true rfl) ?_
      refine zg_istore_n dd_189_29 rfl (Nat.le_of_ble_eq_true rfl) (lv' := [(3, .inl r9.1), (0, .inr (.inr (some 0))), (1, .inl a1), (2, .inl a2)]) rfl ?_
      refine zg_iload_n dd_189_30 rfl (j := 0) rfl ?_
      refine zg_ldc dd_189_31 zw_1369 ?_
      refine zg_icmp_lt (tgt := 45) dd_189_33 (by decide) (fun q11 => ?_) (fun q11 => ?_)
      · replace h := z_t h q11
        refine zg_iload_n dd_189_45 rfl (j := 0) rfl ?_
        obtain rfl := Option.some.inj h
        exact zg_iret dd_189_46 rfl
      · replace h := z_f h q11
        refine zg_aload_n dd_189_36 rfl (j := 1) rfl ?_
        refine zg_ldc dd_189_37 zw_1199 ?_
        obtain ⟨r12, e13, h⟩ := z_bd h
        refine zg_invV_i (av := [.inl (-1000002 : Int32)]) (st := []) (n := 1) dd_189_39 ca_142 zw_1140 zw_1142 zv_31 zMs_0 zcl_12 rfl (mt_fm_finding e13) rfl ⟨by decide +kernel, by decide⟩ (Nat.le_of_ble_eq_true rfl) ?_
        refine zg_goto (tgt := 46) dd_189_42 (by decide) ?_
        obtain rfl := Option.some.inj h
        exact zg_iret dd_189_46 rfl
    · replace h := z_t h q8
      refine zg_aload_n dd_189_16 rfl (j := 0) rfl ?_
      refine zg_ldc dd_189_17 zw_1139 ?_
      obtain ⟨r14, e15, h⟩ := z_bd h
      refine zg_invV_i (av := [.inl (-1000001 : Int32)]) (st := []) (n := 1) dd_189_19 ca_142 zw_1140 zw_1142 zv_31 zMs_0 zcl_12 rfl (mt_fm_finding e15) rfl ⟨by decide +kernel, by decide⟩ (Nat.le_of_ble_eq_true rfl) ?_
      obtain rfl := Option.some.inj h
      exact zg_iret dd_189_22 rfl
/-! TurnedLandModel.reached(0, None) -/
def fm_reached (I : zI) (a1 : Int32) : Option (Int32 × zI) :=
  (fm_isPlace I a1).bind fun r1 =>
  if r1 = 0 then
    (fm_finding I (-1000001 : Int32)).bind fun r4 =>
    some (r4.1, r4.2)
  else
    (fm_reachedBut I a1 (-1 : Int32) (-1 : Int32)).bind fun r6 =>
    some (r6, I)
set_option maxRecDepth 20000 in
theorem mt_fm_reached {I : zI} {a1 : Int32} {res : (Int32 × zI)} (h : fm_reached I a1 = some res) : zM 4 ym_198 [.inr (.inr (some 0)), .inl a1] (zMs, zMr, I) (some (.inl res.1)) (zMs, zMr, res.2) 0 0 := by
  refine zM_of (by decide) (Nat.le_of_ble_eq_true rfl) (lv := [(0, .inr (.inr (some 0))), (1, .inl a1)]) rfl ?_
  rw [fm_reached] at h
  refine zg_aload_n dd_198_0 rfl (j := 0) rfl ?_
  refine zg_iload_n dd_198_1 rfl (j := 1) rfl ?_
  obtain ⟨r1, e2, h⟩ := z_bd h
  refine zg_invV_i (av := [.inl a1]) (st := []) (n := 1) dd_198_2 ca_190 zw_1357 zw_1359 zv_58 zMs_0 zcl_12 rfl (mt_fm_isPlace e2) rfl ⟨by decide +kernel, by decide⟩ (Nat.le_of_ble_eq_true rfl) ?_
  refine zg_if_eq (tgt := 18) dd_198_5 (by decide) (fun q3 => ?_) (fun q3 => ?_)
  · replace h := z_t h q3
    refine zg_aload_n dd_198_18 rfl (j := 0) rfl ?_
    refine zg_ldc dd_198_19 zw_1139 ?_
    obtain ⟨r4, e5, h⟩ := z_bd h
    refine zg_invV_i (av := [.inl (-1000001 : Int32)]) (st := []) (n := 1) dd_198_21 ca_142 zw_1140 zw_1142 zv_31 zMs_0 zcl_12 rfl (mt_fm_finding e5) rfl ⟨by decide +kernel, by decide⟩ (Nat.le_of_ble_eq_true rfl) ?_
    obtain rfl := Option.some.inj h
    exact zg_iret dd_198_24 rfl
  · replace h := z_f h q3
    refine zg_aload_n dd_198_8 rfl (j := 0) rfl ?_
    refine zg_iload_n dd_198_9 rfl (j := 1) rfl ?_
    refine zg_iconst dd_198_10 kI_m1 ?_
    refine zg_iconst dd_198_11 kI_m1 ?_
    obtain ⟨r6, e7, h⟩ := z_bd h
    refine zg_invV_i (av := [.inl a1, .inl (-1 : Int32), .inl (-1 : Int32)]) (st := []) (n := 3) dd_198_12 ca_163 zw_1229 zw_1231 zv_44 zMs_0 zcl_12 rfl (mt_fm_reachedBut e7) rfl ⟨by decide +kernel, by decide⟩ (Nat.le_of_ble_eq_true rfl) ?_
    refine zg_goto (tgt := 24) dd_198_15 (by decide) ?_
    obtain rfl := Option.some.inj h
    exact zg_iret dd_198_24 rfl
/-! TurnedLandModel.leads[0, None, None, None, None] -/
def fm_leads (I : zI) (a1 : Int32) (a2 : Int32) (a3 : Int32) (a4 : Int32) : Option (Int32 × zI) :=
  (fm_crosses I a1 a3).bind fun r1 =>
  if r1.1 = 0 then
    some ((0 : Int32), r1.2)
  else
    (fm_soonestOf r1.2 (r1.2 0 14) a2).bind fun r4 =>
    if (100000000 : Int32) ≤ r4.1 then
      some ((0 : Int32), r4.2)
    else
      if ((r1.2 0 15) + r4.1) = a4 then
        some ((1 : Int32), r4.2)
      else
        some ((0 : Int32), r4.2)
set_option maxRecDepth 20000 in
theorem mt_fm_leads {I : zI} {a1 : Int32} {a2 : Int32} {a3 : Int32} {a4 : Int32} {res : (Int32 × zI)} (h : fm_leads I a1 a2 a3 a4 = some res) : zM 7 ym_200 [.inr (.inr (some 0)), .inl a1, .inl a2, .inl a3, .inl a4] (zMs, zMr, I) (some (.inl res.1)) (zMs, zMr, res.2) 0 0 := by
  refine zM_of (by decide) (Nat.le_of_ble_eq_true rfl) (lv := [(0, .inr (.inr (some 0))), (1, .inl a1), (2, .inl a2), (3, .inl a3), (4, .inl a4)]) rfl ?_
  rw [fm_leads] at h
  refine zg_aload_n dd_200_0 rfl (j := 0) rfl ?_
  refine zg_iload_n dd_200_1 rfl (j := 1) rfl ?_
  refine zg_iload_n dd_200_2 rfl (j := 3) rfl ?_
  obtain ⟨r1, e2, h⟩ := z_bd h
  refine zg_invV_i (av := [.inl a1, .inl a3]) (st := []) (n := 2) dd_200_3 ca_193 zw_1370 zw_1372 zv_61 zMs_0 zcl_12 rfl (mt_fm_crosses e2) rfl ⟨by decide +kernel, by decide⟩ (Nat.le_of_ble_eq_true rfl) ?_
  refine zg_if_ne (tgt := 11) dd_200_6 (by decide) (fun q3 => ?_) (fun q3 => ?_)
  · replace h := z_f h q3
    refine zg_aload_n dd_200_11 rfl (j := 0) rfl ?_
    refine zg_getI (x := (r1.2 0 15)) dd_200_12 zl_M_216 zMs_0 rfl rfl ?_
    refine zg_istore dd_200_15 (Nat.le_of_ble_eq_true rfl) (lv' := [(5, .inl (r1.2 0 15)), (0, .inr (.inr (some 0))), (1, .inl a1), (2, .inl a2), (3, .inl a3), (4, .inl a4)]) rfl ?_
    refine zg_aload_n dd_200_17 rfl (j := 1) rfl ?_
    refine zg_aload_n dd_200_18 rfl (j := 1) rfl ?_
    refine zg_getI (x := (r1.2 0 14)) dd_200_19 zl_M_209 zMs_0 rfl rfl ?_
    refine zg_iload_n dd_200_22 rfl (j := 3) rfl ?_
    obtain ⟨r4, e5, h⟩ := z_bd h
    refine zg_invV_i (av := [.inl (r1.2 0 14), .inl a2]) (st := []) (n := 2) dd_200_23 ca_191 zw_1361 zw_1363 zv_59 zMs_0 zcl_12 rfl (mt_fm_soonestOf e5) rfl ⟨by decide +kernel, by decide⟩ (Nat.le_of_ble_eq_true rfl) ?_
    refine zg_istore dd_200_26 (Nat.le_of_ble_eq_true rfl) (lv' := [(6, .inl r4.1), (5, .inl (r1.2 0 15)), (0, .inr (.inr (some 0))), (1, .inl a1), (2, .inl a2), (3, .inl a3), (4, .inl a4)]) rfl ?_
    refine zg_iload dd_200_28 (j := 0) rfl ?_
    refine zg_ldc dd_200_30 zw_1369 ?_
    refine zg_icmp_ge (tgt := 49) dd_200_32 (by decide) (fun q6 => ?_) (fun q6 => ?_)
    · replace h := z_t h q6
      refine zg_iconst dd_200_49 kI_0 ?_
      obtain rfl := Option.some.inj h
      exact zg_zret dd_200_50 rfl zSt_b0.1
    · replace h := z_f h q6
      refine zg_iload dd_200_35 (j := 1) rfl ?_
      refine zg_iload dd_200_37 (j := 0) rfl ?_
      refine zg_iadd dd_200_39 ?_
      refine zg_iload dd_200_40 (j := 6) rfl ?_
      refine zg_icmp_ne (tgt := 49) dd_200_42 (by decide) (fun q7 => ?_) (fun q7 => ?_)
      · replace h := z_f h q7
        refine zg_iconst dd_200_49 kI_0 ?_
        obtain rfl := Option.some.inj h
        exact zg_zret dd_200_50 rfl zSt_b0.1
      · replace h := z_t h q7
        refine zg_iconst dd_200_45 kI_1 ?_
        refine zg_goto (tgt := 50) dd_200_46 (by decide) ?_
        obtain rfl := Option.some.inj h
        exact zg_zret dd_200_50 rfl zSt_b1.1
  · replace h := z_t h q3
    refine zg_iconst dd_200_9 kI_0 ?_
    obtain rfl := Option.some.inj h
    exact zg_zret dd_200_10 rfl zSt_b0.1
/-! TurnedLandModel.first(0, None, None) -/
def fm_first_L51 : Nat → Int32 → Int32 → Int32 → Int32 → zI → Option (Int32 × zI)
  | 0, _, _, _, _, _ => none
  | nf + 1, v1, v2, v3, v4, I =>
    (fm_leads I v1 v2 v4 v3).bind fun r15 =>
    if r15.1 = 0 then
      fm_first_L51 nf v1 v2 v3 (v4 + (1 : Int32)) r15.2
    else
      some (v4, r15.2)
def fm_first (I : zI) (a1 : Int32) (a2 : Int32) : Option (Int32 × zI) :=
  (fm_isPlace I a1).bind fun r1 =>
  if r1 = 0 then
    (fm_finding I (-1000001 : Int32)).bind fun r4 =>
    some (r4.1, r4.2)
  else
    (fm_isPlace I a2).bind fun r6 =>
    if r6 = 0 then
      (fm_finding I (-1000001 : Int32)).bind fun r20 =>
      some (r20.1, r20.2)
    else
      (fm_soonestOf I a1 a2).bind fun r9 =>
      if a1 = a2 then
        (fm_finding r9.2 (-1000002 : Int32)).bind fun r12 =>
        some (r12.1, r12.2)
      else
        if r9.1 < (100000000 : Int32) then
          fm_first_L51
            100 a1 a2 r9.1 (0 : Int32) r9.2
        else
          (fm_finding r9.2 (-1000002 : Int32)).bind fun r18 =>
          some (r18.1, r18.2)
set_option maxRecDepth 20000 in
theorem lt_fm_first_L51 {res : (Int32 × zI)} : ∀ (nf : Nat) (v1 : Int32) (v2 : Int32) (v3 : Int32) (v4 : Int32) (I : zI), fm_first_L51 nf v1 v2 v3 v4 I = some res → zG 8 ym_199 0 0 (some (.inl res.1)) (zMs, zMr, res.2) zMs.length 51 [(0, .inr (.inr (some 0))), (1, .inl v1), (2, .inl v2), (3, .inl v3), (4, .inl v4)] [] (zMs, zMr, I) 0 0 := by
  intro nf
  induction nf with
  | zero =>
    intro v1 v2 v3 v4 I h
    have h2 : none = some res := h
    cases h2
  | succ nf ih =>
    intro v1 v2 v3 v4 I h
    rw [fm_first_L51] at h
    refine zg_aload_n dd_199_51 rfl (j := 0) rfl ?_
    refine zg_iload_n dd_199_52 rfl (j := 1) rfl ?_
    refine zg_iload_n dd_199_53 rfl (j := 2) rfl ?_
    refine zg_iload dd_199_54 (j := 4) rfl ?_
    refine zg_iload_n dd_199_56 rfl (j := 3) rfl ?_
    obtain ⟨r15, e16, h⟩ := z_bd h
    refine zg_invV_i (av := [.inl v1, .inl v2, .inl v4, .inl v3]) (st := []) (n := 4) dd_199_57 ca_200 zw_1396 zw_1398 zv_64 zMs_0 zcl_12 rfl (mt_fm_leads e16) rfl ⟨by decide +kernel, by decide⟩ (Nat.le_of_ble_eq_true rfl) ?_
    refine zg_if_ne (tgt := 69) dd_199_60 (by decide) (fun q17 => ?_) (fun q17 => ?_)
    · replace h := z_f h q17
      refine zg_iload dd_199_69 (j := 4) rfl ?_
      obtain rfl := Option.some.inj h
      exact zg_iret dd_199_71 rfl
    · replace h := z_t h q17
      refine zg_iinc dd_199_63 (j := 4) rfl (v := (v4 + (1 : Int32))) (by rw [kI_1]) (Nat.le_of_ble_eq_true rfl) (lv' := [(4, .inl (v4 + (1 : Int32))), (0, .inr (.inr (some 0))), (1, .inl v1), (2, .inl v2), (3, .inl v3)]) rfl ?_
      refine zg_goto (tgt := 51) dd_199_66 (by decide) ?_
      refine zg_sub [1, 2, 3, 4, 0] rfl ?_
      exact ih _ _ _ _ _ h
set_option maxRecDepth 20000 in
theorem mt_fm_first {I : zI} {a1 : Int32} {a2 : Int32} {res : (Int32 × zI)} (h : fm_first I a1 a2 = some res) : zM 8 ym_199 [.inr (.inr (some 0)), .inl a1, .inl a2] (zMs, zMr, I) (some (.inl res.1)) (zMs, zMr, res.2) 0 0 := by
  refine zM_of (by decide) (Nat.le_of_ble_eq_true rfl) (lv := [(0, .inr (.inr (some 0))), (1, .inl a1), (2, .inl a2)]) rfl ?_
  rw [fm_first] at h
  refine zg_aload_n dd_199_0 rfl (j := 0) rfl ?_
  refine zg_iload_n dd_199_1 rfl (j := 1) rfl ?_
  obtain ⟨r1, e2, h⟩ := z_bd h
  refine zg_invV_i (av := [.inl a1]) (st := []) (n := 1) dd_199_2 ca_190 zw_1357 zw_1359 zv_58 zMs_0 zcl_12 rfl (mt_fm_isPlace e2) rfl ⟨by decide +kernel, by decide⟩ (Nat.le_of_ble_eq_true rfl) ?_
  refine zg_if_eq (tgt := 16) dd_199_5 (by decide) (fun q3 => ?_) (fun q3 => ?_)
  · replace h := z_t h q3
    refine zg_aload_n dd_199_16 rfl (j := 0) rfl ?_
    refine zg_ldc dd_199_17 zw_1139 ?_
    obtain ⟨r4, e5, h⟩ := z_bd h
    refine zg_invV_i (av := [.inl (-1000001 : Int32)]) (st := []) (n := 1) dd_199_19 ca_142 zw_1140 zw_1142 zv_31 zMs_0 zcl_12 rfl (mt_fm_finding e5) rfl ⟨by decide +kernel, by decide⟩ (Nat.le_of_ble_eq_true rfl) ?_
    obtain rfl := Option.some.inj h
    exact zg_iret dd_199_22 rfl
  · replace h := z_f h q3
    refine zg_aload_n dd_199_8 rfl (j := 0) rfl ?_
    refine zg_iload_n dd_199_9 rfl (j := 2) rfl ?_
    obtain ⟨r6, e7, h⟩ := z_bd h
    refine zg_invV_i (av := [.inl a2]) (st := []) (n := 1) dd_199_10 ca_190 zw_1357 zw_1359 zv_58 zMs_0 zcl_12 rfl (mt_fm_isPlace e7) rfl ⟨by decide +kernel, by decide⟩ (Nat.le_of_ble_eq_true rfl) ?_
    refine zg_if_ne (tgt := 23) dd_199_13 (by decide) (fun q8 => ?_) (fun q8 => ?_)
    · replace h := z_f h q8
      refine zg_aload_n dd_199_23 rfl (j := 0) rfl ?_
      refine zg_iload_n dd_199_24 rfl (j := 1) rfl ?_
      refine zg_iload_n dd_199_25 rfl (j := 2) rfl ?_
      obtain ⟨r9, e10, h⟩ := z_bd h
      refine zg_invV_i (av := [.inl a1, .inl a2]) (st := []) (n := 2) dd_199_26 ca_191 zw_1361 zw_1363 zv_59 zMs_0 zcl_12 rfl (mt_fm_soonestOf e10) rfl ⟨by decide +kernel, by decide⟩ (Nat.le_of_ble_eq_true rfl) ?_
      refine zg_istore_n dd_199_29 rfl (Nat.le_of_ble_eq_true rfl) (lv' := [(3, .inl r9.1), (0, .inr (.inr (some 0))), (1, .inl a1), (2, .inl a2)]) rfl ?_
      refine zg_iload_n dd_199_30 rfl (j := 2) rfl ?_
      refine zg_iload_n dd_199_31 rfl (j := 3) rfl ?_
      refine zg_icmp_eq (tgt := 41) dd_199_32 (by decide) (fun q11 => ?_) (fun q11 => ?_)
      · replace h := z_t h q11
        refine zg_aload_n dd_199_41 rfl (j := 1) rfl ?_
        refine zg_ldc dd_199_42 zw_1199 ?_
        obtain ⟨r12, e13, h⟩ := z_bd h
        refine zg_invV_i (av := [.inl (-1000002 : Int32)]) (st := []) (n := 1) dd_199_44 ca_142 zw_1140 zw_1142 zv_31 zMs_0 zcl_12 rfl (mt_fm_finding e13) rfl ⟨by decide +kernel, by decide⟩ (Nat.le_of_ble_eq_true rfl) ?_
        obtain rfl := Option.some.inj h
        exact zg_iret dd_199_47 rfl
      · replace h := z_f h q11
        refine zg_iload_n dd_199_35 rfl (j := 0) rfl ?_
        refine zg_ldc dd_199_36 zw_1369 ?_
        refine zg_icmp_lt (tgt := 48) dd_199_38 (by decide) (fun q14 => ?_) (fun q14 => ?_)
        · replace h := z_t h q14
          refine zg_iconst dd_199_48 kI_0 ?_
          refine zg_istore dd_199_49 (Nat.le_of_ble_eq_true rfl) (lv' := [(4, .inl (0 : Int32)), (3, .inl r9.1), (0, .inr (.inr (some 0))), (1, .inl a1), (2, .inl a2)]) rfl ?_
          refine zg_sub [2, 3, 4, 1, 0] rfl ?_
          refine lt_fm_first_L51  _ _ _ _ _ _ h
        · replace h := z_f h q14
          refine zg_aload_n dd_199_41 rfl (j := 1) rfl ?_
          refine zg_ldc dd_199_42 zw_1199 ?_
          obtain ⟨r18, e19, h⟩ := z_bd h
          refine zg_invV_i (av := [.inl (-1000002 : Int32)]) (st := []) (n := 1) dd_199_44 ca_142 zw_1140 zw_1142 zv_31 zMs_0 zcl_12 rfl (mt_fm_finding e19) rfl ⟨by decide +kernel, by decide⟩ (Nat.le_of_ble_eq_true rfl) ?_
          obtain rfl := Option.some.inj h
          exact zg_iret dd_199_47 rfl
    · replace h := z_t h q8
      refine zg_aload_n dd_199_16 rfl (j := 0) rfl ?_
      refine zg_ldc dd_199_17 zw_1139 ?_
      obtain ⟨r20, e21, h⟩ := z_bd h
      refine zg_invV_i (av := [.inl (-1000001 : Int32)]) (st := []) (n := 1) dd_199_19 ca_142 zw_1140 zw_1142 zv_31 zMs_0 zcl_12 rfl (mt_fm_finding e21) rfl ⟨by decide +kernel, by decide⟩ (Nat.le_of_ble_eq_true rfl) ?_
      obtain rfl := Option.some.inj h
      exact zg_iret dd_199_22 rfl
/-! TurnedLandModel.walk(0, None, None, None) -/
def fm_walk_L180 : Nat → Int32 → Int32 → Int32 → Int32 → zI → Option (Int32 × zI)
  | 0, _, _, _, _, _ => none
  | nf + 1, v6, v7, v8, v9, I =>
    if v9 < 0 then
      some (v6, (zup I 1 (2 : Int32).toNatClampNeg ((I 1 (2 : Int32).toNatClampNeg) + (1 : Int32))))
    else
      z_guard (zb ((v7 + (4 : Int32)) + v9) 448) <|
      fm_walk_L180 nf v6 v7 (v8 / (10 : Int32)) (v9 + (-1 : Int32)) (zup I 1 ((v7 + (4 : Int32)) + v9).toNatClampNeg ((v8 % (10 : Int32)) - (1 : Int32)))
def fm_walk_L17 : Nat → Int32 → Int32 → Int32 → Int32 → Int32 → Int32 → zI → Option (Int32 × zI)
  | 0, _, _, _, _, _, _, _ => none
  | nf + 1, v1, v2, v3, v4, v5, v6, I =>
    if v6 ≤ 0 then
      (fm_within I v1 (0 : Int32) (6 : Int32)).bind fun r3 =>
      if r3 = 0 then
        (fm_finding I (-1000001 : Int32)).bind fun r6 =>
        some (r6.1, r6.2)
      else
        (fm_is I v2 (0 : Int32)).bind fun r8 =>
        if r8 = 0 then
          (fm_finding I (-1000001 : Int32)).bind fun r11 =>
          some (r11.1, r11.2)
        else
          if v5 = 0 then
            (fm_finding I (-1000001 : Int32)).bind fun r14 =>
            some (r14.1, r14.2)
          else
            if v4 ≤ (8 : Int32) then
              if (I 1 (2 : Int32).toNatClampNeg) = (10 : Int32) then
                (fm_finding I (-1000004 : Int32)).bind fun r24 =>
                some (r24.1, r24.2)
              else
                z_guard (zb (((66 : Int32) + ((12 : Int32) * (I 1 (2 : Int32).toNatClampNeg))) + (0 : Int32)) 448) <|
                z_guard (zb (((66 : Int32) + ((12 : Int32) * (I 1 (2 : Int32).toNatClampNeg))) + (1 : Int32)) 448) <|
                z_guard (zb (((66 : Int32) + ((12 : Int32) * (I 1 (2 : Int32).toNatClampNeg))) + (2 : Int32)) 448) <|
                z_guard (zb (((66 : Int32) + ((12 : Int32) * (I 1 (2 : Int32).toNatClampNeg))) + (3 : Int32)) 448) <|
                fm_walk_L180
                  100 (I 1 (2 : Int32).toNatClampNeg) ((66 : Int32) + ((12 : Int32) * (I 1 (2 : Int32).toNatClampNeg))) v3 (v4 - (1 : Int32)) (zup (zup (zup (zup I 1 (((66 : Int32) + ((12 : Int32) * (I 1 (2 : Int32).toNatClampNeg))) + (0 : Int32)).toNatClampNeg v1) 1 (((66 : Int32) + ((12 : Int32) * (I 1 (2 : Int32).toNatClampNeg))) + (1 : Int32)).toNatClampNeg v2) 1 (((66 : Int32) + ((12 : Int32) * (I 1 (2 : Int32).toNatClampNeg))) + (2 : Int32)).toNatClampNeg v4) 1 (((66 : Int32) + ((12 : Int32) * (I 1 (2 : Int32).toNatClampNeg))) + (3 : Int32)).toNatClampNeg (-1 : Int32))
            else
              (fm_finding I (-1000001 : Int32)).bind fun r26 =>
              some (r26.1, r26.2)
    else
      if v5 = 0 then
        fm_walk_L17 nf v1 v2 v3 (v4 + (1 : Int32)) (0 : Int32) (v6 / (10 : Int32)) I
      else
        (fm_within I (v6 % (10 : Int32)) (1 : Int32) (4 : Int32)).bind fun r29 =>
        if r29 = 0 then
          fm_walk_L17 nf v1 v2 v3 (v4 + (1 : Int32)) (0 : Int32) (v6 / (10 : Int32)) I
        else
          fm_walk_L17 nf v1 v2 v3 (v4 + (1 : Int32)) (1 : Int32) (v6 / (10 : Int32)) I
def fm_walk_J12 (I : zI) (v1 : Int32) (v2 : Int32) (v3 : Int32) (v4 : Int32) (x0 : Int32) : Option (Int32 × zI) :=
  fm_walk_L17
    100 v1 v2 v3 v4 x0 v3 I
def fm_walk (I : zI) (a1 : Int32) (a2 : Int32) (a3 : Int32) : Option (Int32 × zI) :=
  if a3 < 0 then
    fm_walk_J12 I a1 a2 a3 (0 : Int32) (0 : Int32)
  else
    fm_walk_J12 I a1 a2 a3 (0 : Int32) (1 : Int32)
set_option maxRecDepth 20000 in
theorem lt_fm_walk_L180 {res : (Int32 × zI)} : ∀ (nf : Nat) (v6 : Int32) (v7 : Int32) (v8 : Int32) (v9 : Int32) (I : zI), fm_walk_L180 nf v6 v7 v8 v9 I = some res → zG 3 ym_201 0 0 (some (.inl res.1)) (zMs, zMr, res.2) zMs.length 180 [(0, .inr (.inr (some 0))), (6, .inl v6), (7, .inl v7), (8, .inl v8), (9, .inl v9)] [] (zMs, zMr, I) 0 0 := by
  intro nf
  induction nf with
  | zero =>
    intro v6 v7 v8 v9 I h
    have h2 : none = some res := h
    cases h2
  | succ nf ih =>
    intro v6 v7 v8 v9 I h
    rw [fm_walk_L180] at h
    refine zg_iload dd_201_180 (j := 4) rfl ?_
    refine zg_if_lt (tgt := 217) dd_201_182 (by decide) (fun q22 => ?_) (fun q22 => ?_)
    · replace h := z_t h q22
      refine zg_aload_n dd_201_217 rfl (j := 0) rfl ?_
      refine zg_getR dd_201_218 zl_M_9 zMs_0 rfl zMr_0_0 ?_
      refine zg_iconst dd_201_221 kI_2 ?_
      refine zg_dup2 dd_201_222 rfl rfl ?_
      refine zg_iald (w := (I 1 (2 : Int32).toNatClampNeg)) dd_201_223 zMs_1 (by decide) rfl ?_
      refine zg_iconst dd_201_224 kI_1 ?_
      refine zg_iadd dd_201_225 ?_
      refine zg_iast dd_201_226 zMs_1 (by decide) ?_
      refine zg_iload dd_201_227 (j := 1) rfl ?_
      obtain rfl := Option.some.inj h
      exact zg_iret dd_201_229 rfl
    · replace h := z_f h q22
      refine zg_aload_n dd_201_185 rfl (j := 0) rfl ?_
      refine zg_getR dd_201_186 zl_M_9 zMs_0 rfl zMr_0_0 ?_
      refine zg_iload dd_201_189 (j := 2) rfl ?_
      refine zg_iconst dd_201_191 kI_4 ?_
      refine zg_iadd dd_201_192 ?_
      refine zg_iload dd_201_193 (j := 4) rfl ?_
      refine zg_iadd dd_201_195 ?_
      refine zg_iload dd_201_196 (j := 3) rfl ?_
      refine zg_bipush dd_201_198 kB_10 ?_
      refine zg_irem dd_201_200 (by decide) ?_
      refine zg_iconst dd_201_201 kI_1 ?_
      refine zg_isub dd_201_202 ?_
      obtain ⟨g23, h⟩ := z_gd h
      refine zg_iast dd_201_203 zMs_1 g23 ?_
      refine zg_iload dd_201_204 (j := 3) rfl ?_
      refine zg_bipush dd_201_206 kB_10 ?_
      refine zg_idiv dd_201_208 (by decide) ?_
      refine zg_istore dd_201_209 (Nat.le_of_ble_eq_true rfl) (lv' := [(8, .inl (v8 / (10 : Int32))), (0, .inr (.inr (some 0))), (6, .inl v6), (7, .inl v7), (9, .inl v9)]) rfl ?_
      refine zg_iinc dd_201_211 (j := 4) rfl (v := (v9 + (-1 : Int32))) (by rw [kI_m1]) (Nat.le_of_ble_eq_true rfl) (lv' := [(9, .inl (v9 + (-1 : Int32))), (8, .inl (v8 / (10 : Int32))), (0, .inr (.inr (some 0))), (6, .inl v6), (7, .inl v7)]) rfl ?_
      refine zg_goto (tgt := 180) dd_201_214 (by decide) ?_
      refine zg_sub [2, 3, 4, 1, 0] rfl ?_
      exact ih _ _ _ _ _ h
set_option maxRecDepth 20000 in
theorem lt_fm_walk_L17 {res : (Int32 × zI)} : ∀ (nf : Nat) (v1 : Int32) (v2 : Int32) (v3 : Int32) (v4 : Int32) (v5 : Int32) (v6 : Int32) (I : zI), fm_walk_L17 nf v1 v2 v3 v4 v5 v6 I = some res → zG 3 ym_201 0 0 (some (.inl res.1)) (zMs, zMr, res.2) zMs.length 17 [(0, .inr (.inr (some 0))), (1, .inl v1), (2, .inl v2), (3, .inl v3), (4, .inl v4), (5, .inl v5), (6, .inl v6)] [] (zMs, zMr, I) 0 0 := by
  intro nf
  induction nf with
  | zero =>
    intro v1 v2 v3 v4 v5 v6 I h
    have h2 : none = some res := h
    cases h2
  | succ nf ih =>
    intro v1 v2 v3 v4 v5 v6 I h
    rw [fm_walk_L17] at h
    refine zg_iload dd_201_17 (j := 6) rfl ?_
    refine zg_if_le (tgt := 60) dd_201_19 (by decide) (fun q2 => ?_) (fun q2 => ?_)
    · replace h := z_t h q2
      refine zg_iload_n dd_201_60 rfl (j := 1) rfl ?_
      refine zg_iconst dd_201_61 kI_0 ?_
      refine zg_bipush dd_201_62 kB_6 ?_
      obtain ⟨r3, e4, h⟩ := z_bd h
      refine zg_invS_i (av := [.inl v1, .inl (0 : Int32), .inl (6 : Int32)]) (st := []) (n := 3) dd_201_64 ca_141 zw_1136 zw_1137 (mt_fm_within e4) rfl ⟨by decide +kernel, by decide⟩ (Nat.le_of_ble_eq_true rfl) ?_
      refine zg_if_eq (tgt := 91) dd_201_67 (by decide) (fun q5 => ?_) (fun q5 => ?_)
      · replace h := z_t h q5
        refine zg_aload_n dd_201_91 rfl (j := 0) rfl ?_
        refine zg_ldc dd_201_92 zw_1139 ?_
        obtain ⟨r6, e7, h⟩ := z_bd h
        refine zg_invV_i (av := [.inl (-1000001 : Int32)]) (st := []) (n := 1) dd_201_94 ca_142 zw_1140 zw_1142 zv_31 zMs_0 zcl_12 rfl (mt_fm_finding e7) rfl ⟨by decide +kernel, by decide⟩ (Nat.le_of_ble_eq_true rfl) ?_
        obtain rfl := Option.some.inj h
        exact zg_iret dd_201_97 rfl
      · replace h := z_f h q5
        refine zg_aload_n dd_201_70 rfl (j := 0) rfl ?_
        refine zg_iload_n dd_201_71 rfl (j := 2) rfl ?_
        refine zg_iconst dd_201_72 kI_0 ?_
        obtain ⟨r8, e9, h⟩ := z_bd h
        refine zg_invV_i (av := [.inl v2, .inl (0 : Int32)]) (st := []) (n := 2) dd_201_73 ca_144 zw_1150 zw_1152 zv_32 zMs_0 zcl_12 rfl (mt_fm_is e9) rfl ⟨by decide +kernel, by decide⟩ (Nat.le_of_ble_eq_true rfl) ?_
        refine zg_if_eq (tgt := 91) dd_201_76 (by decide) (fun q10 => ?_) (fun q10 => ?_)
        · replace h := z_t h q10
          refine zg_aload_n dd_201_91 rfl (j := 0) rfl ?_
          refine zg_ldc dd_201_92 zw_1139 ?_
          obtain ⟨r11, e12, h⟩ := z_bd h
          refine zg_invV_i (av := [.inl (-1000001 : Int32)]) (st := []) (n := 1) dd_201_94 ca_142 zw_1140 zw_1142 zv_31 zMs_0 zcl_12 rfl (mt_fm_finding e12) rfl ⟨by decide +kernel, by decide⟩ (Nat.le_of_ble_eq_true rfl) ?_
          obtain rfl := Option.some.inj h
          exact zg_iret dd_201_97 rfl
        · replace h := z_f h q10
          refine zg_iload dd_201_79 (j := 5) rfl ?_
          refine zg_if_eq (tgt := 91) dd_201_81 (by decide) (fun q13 => ?_) (fun q13 => ?_)
          · replace h := z_t h q13
            refine zg_aload_n dd_201_91 rfl (j := 0) rfl ?_
            refine zg_ldc dd_201_92 zw_1139 ?_
            obtain ⟨r14, e15, h⟩ := z_bd h
            refine zg_invV_i (av := [.inl (-1000001 : Int32)]) (st := []) (n := 1) dd_201_94 ca_142 zw_1140 zw_1142 zv_31 zMs_0 zcl_12 rfl (mt_fm_finding e15) rfl ⟨by decide +kernel, by decide⟩ (Nat.le_of_ble_eq_true rfl) ?_
            obtain rfl := Option.some.inj h
            exact zg_iret dd_201_97 rfl
          · replace h := z_f h q13
            refine zg_iload dd_201_84 (j := 4) rfl ?_
            refine zg_bipush dd_201_86 kB_8 ?_
            refine zg_icmp_le (tgt := 98) dd_201_88 (by decide) (fun q16 => ?_) (fun q16 => ?_)
            · replace h := z_t h q16
              refine zg_aload_n dd_201_98 rfl (j := 0) rfl ?_
              refine zg_getR dd_201_99 zl_M_9 zMs_0 rfl zMr_0_0 ?_
              refine zg_iconst dd_201_102 kI_2 ?_
              refine zg_iald (w := (I 1 (2 : Int32).toNatClampNeg)) dd_201_103 zMs_1 (by decide) rfl ?_
              refine zg_istore dd_201_104 (Nat.le_of_ble_eq_true rfl) (lv' := [(6, .inl (I 1 (2 : Int32).toNatClampNeg)), (0, .inr (.inr (some 0))), (1, .inl v1), (2, .inl v2), (3, .inl v3), (4, .inl v4), (5, .inl v5)]) rfl ?_
              refine zg_iload dd_201_106 (j := 0) rfl ?_
              refine zg_bipush dd_201_108 kB_10 ?_
              refine zg_icmp_ne (tgt := 120) dd_201_110 (by decide) (fun q17 => ?_) (fun q17 => ?_)
              · replace h := z_f h q17
                refine zg_bipush dd_201_120 kB_66 ?_
                refine zg_bipush dd_201_122 kB_12 ?_
                refine zg_iload dd_201_124 (j := 0) rfl ?_
                refine zg_imul dd_201_126 ?_
                refine zg_iadd dd_201_127 ?_
                refine zg_istore dd_201_128 (Nat.le_of_ble_eq_true rfl) (lv' := [(7, .inl ((66 : Int32) + ((12 : Int32) * (I 1 (2 : Int32).toNatClampNeg)))), (6, .inl (I 1 (2 : Int32).toNatClampNeg)), (0, .inr (.inr (some 0))), (1, .inl v1), (2, .inl v2), (3, .inl v3), (4, .inl v4), (5, .inl v5)]) rfl ?_
                refine zg_aload_n dd_201_130 rfl (j := 2) rfl ?_
                refine zg_getR dd_201_131 zl_M_9 zMs_0 rfl zMr_0_0 ?_
                refine zg_iload dd_201_134 (j := 0) rfl ?_
                refine zg_iconst dd_201_136 kI_0 ?_
                refine zg_iadd dd_201_137 ?_
                refine zg_iload_n dd_201_138 rfl (j := 3) rfl ?_
                obtain ⟨g18, h⟩ := z_gd h
                refine zg_iast dd_201_139 zMs_1 g18 ?_
                refine zg_aload_n dd_201_140 rfl (j := 2) rfl ?_
                refine zg_getR dd_201_141 zl_M_9 zMs_0 rfl zMr_0_0 ?_
                refine zg_iload dd_201_144 (j := 0) rfl ?_
                refine zg_iconst dd_201_146 kI_1 ?_
                refine zg_iadd dd_201_147 ?_
                refine zg_iload_n dd_201_148 rfl (j := 4) rfl ?_
                obtain ⟨g19, h⟩ := z_gd h
                refine zg_iast dd_201_149 zMs_1 g19 ?_
                refine zg_aload_n dd_201_150 rfl (j := 2) rfl ?_
                refine zg_getR dd_201_151 zl_M_9 zMs_0 rfl zMr_0_0 ?_
                refine zg_iload dd_201_154 (j := 0) rfl ?_
                refine zg_iconst dd_201_156 kI_2 ?_
                refine zg_iadd dd_201_157 ?_
                refine zg_iload dd_201_158 (j := 6) rfl ?_
                obtain ⟨g20, h⟩ := z_gd h
                refine zg_iast dd_201_160 zMs_1 g20 ?_
                refine zg_aload_n dd_201_161 rfl (j := 2) rfl ?_
                refine zg_getR dd_201_162 zl_M_9 zMs_0 rfl zMr_0_0 ?_
                refine zg_iload dd_201_165 (j := 0) rfl ?_
                refine zg_iconst dd_201_167 kI_3 ?_
                refine zg_iadd dd_201_168 ?_
                refine zg_iconst dd_201_169 kI_m1 ?_
                obtain ⟨g21, h⟩ := z_gd h
                refine zg_iast dd_201_170 zMs_1 g21 ?_
                refine zg_iload_n dd_201_171 rfl (j := 5) rfl ?_
                refine zg_istore dd_201_172 (Nat.le_of_ble_eq_true rfl) (lv' := [(8, .inl v3), (7, .inl ((66 : Int32) + ((12 : Int32) * (I 1 (2 : Int32).toNatClampNeg)))), (6, .inl (I 1 (2 : Int32).toNatClampNeg)), (0, .inr (.inr (some 0))), (1, .inl v1), (2, .inl v2), (3, .inl v3), (4, .inl v4), (5, .inl v5)]) rfl ?_
                refine zg_iload dd_201_174 (j := 7) rfl ?_
                refine zg_iconst dd_201_176 kI_1 ?_
                refine zg_isub dd_201_177 ?_
                refine zg_istore dd_201_178 (Nat.le_of_ble_eq_true rfl) (lv' := [(9, .inl (v4 - (1 : Int32))), (8, .inl v3), (7, .inl ((66 : Int32) + ((12 : Int32) * (I 1 (2 : Int32).toNatClampNeg)))), (6, .inl (I 1 (2 : Int32).toNatClampNeg)), (0, .inr (.inr (some 0))), (1, .inl v1), (2, .inl v2), (3, .inl v3), (4, .inl v4), (5, .inl v5)]) rfl ?_
                refine zg_sub [4, 3, 2, 1, 0] rfl ?_
                refine lt_fm_walk_L180  _ _ _ _ _ _ h
              · replace h := z_t h q17
                refine zg_aload_n dd_201_113 rfl (j := 1) rfl ?_
                refine zg_ldc dd_201_114 zw_1145 ?_
                obtain ⟨r24, e25, h⟩ := z_bd h
                refine zg_invV_i (av := [.inl (-1000004 : Int32)]) (st := []) (n := 1) dd_201_116 ca_142 zw_1140 zw_1142 zv_31 zMs_0 zcl_12 rfl (mt_fm_finding e25) rfl ⟨by decide +kernel, by decide⟩ (Nat.le_of_ble_eq_true rfl) ?_
                obtain rfl := Option.some.inj h
                exact zg_iret dd_201_119 rfl
            · replace h := z_f h q16
              refine zg_aload_n dd_201_91 rfl (j := 0) rfl ?_
              refine zg_ldc dd_201_92 zw_1139 ?_
              obtain ⟨r26, e27, h⟩ := z_bd h
              refine zg_invV_i (av := [.inl (-1000001 : Int32)]) (st := []) (n := 1) dd_201_94 ca_142 zw_1140 zw_1142 zv_31 zMs_0 zcl_12 rfl (mt_fm_finding e27) rfl ⟨by decide +kernel, by decide⟩ (Nat.le_of_ble_eq_true rfl) ?_
              obtain rfl := Option.some.inj h
              exact zg_iret dd_201_97 rfl
    · replace h := z_f h q2
      refine zg_iload dd_201_22 (j := 5) rfl ?_
      refine zg_if_eq (tgt := 44) dd_201_24 (by decide) (fun q28 => ?_) (fun q28 => ?_)
      · replace h := z_t h q28
        refine zg_iconst dd_201_44 kI_0 ?_
        refine zg_istore dd_201_45 (Nat.le_of_ble_eq_true rfl) (lv' := [(5, .inl (0 : Int32)), (0, .inr (.inr (some 0))), (1, .inl v1), (2, .inl v2), (3, .inl v3), (4, .inl v4), (6, .inl v6)]) rfl ?_
        refine zg_iinc dd_201_47 (j := 5) rfl (v := (v4 + (1 : Int32))) (by rw [kI_1]) (Nat.le_of_ble_eq_true rfl) (lv' := [(4, .inl (v4 + (1 : Int32))), (5, .inl (0 : Int32)), (0, .inr (.inr (some 0))), (1, .inl v1), (2, .inl v2), (3, .inl v3), (6, .inl v6)]) rfl ?_
        refine zg_iload dd_201_50 (j := 6) rfl ?_
        refine zg_bipush dd_201_52 kB_10 ?_
        refine zg_idiv dd_201_54 (by decide) ?_
        refine zg_istore dd_201_55 (Nat.le_of_ble_eq_true rfl) (lv' := [(6, .inl (v6 / (10 : Int32))), (4, .inl (v4 + (1 : Int32))), (5, .inl (0 : Int32)), (0, .inr (.inr (some 0))), (1, .inl v1), (2, .inl v2), (3, .inl v3)]) rfl ?_
        refine zg_goto (tgt := 17) dd_201_57 (by decide) ?_
        refine zg_sub [3, 4, 5, 6, 1, 2, 0] rfl ?_
        exact ih _ _ _ _ _ _ _ h
      · replace h := z_f h q28
        refine zg_iload dd_201_27 (j := 6) rfl ?_
        refine zg_bipush dd_201_29 kB_10 ?_
        refine zg_irem dd_201_31 (by decide) ?_
        refine zg_iconst dd_201_32 kI_1 ?_
        refine zg_iconst dd_201_33 kI_4 ?_
        obtain ⟨r29, e30, h⟩ := z_bd h
        refine zg_invS_i (av := [.inl (v6 % (10 : Int32)), .inl (1 : Int32), .inl (4 : Int32)]) (st := []) (n := 3) dd_201_34 ca_141 zw_1136 zw_1137 (mt_fm_within e30) rfl ⟨by decide +kernel, by decide⟩ (Nat.le_of_ble_eq_true rfl) ?_
        refine zg_if_eq (tgt := 44) dd_201_37 (by decide) (fun q31 => ?_) (fun q31 => ?_)
        · replace h := z_t h q31
          refine zg_iconst dd_201_44 kI_0 ?_
          refine zg_istore dd_201_45 (Nat.le_of_ble_eq_true rfl) (lv' := [(5, .inl (0 : Int32)), (0, .inr (.inr (some 0))), (1, .inl v1), (2, .inl v2), (3, .inl v3), (4, .inl v4), (6, .inl v6)]) rfl ?_
          refine zg_iinc dd_201_47 (j := 5) rfl (v := (v4 + (1 : Int32))) (by rw [kI_1]) (Nat.le_of_ble_eq_true rfl) (lv' := [(4, .inl (v4 + (1 : Int32))), (5, .inl (0 : Int32)), (0, .inr (.inr (some 0))), (1, .inl v1), (2, .inl v2), (3, .inl v3), (6, .inl v6)]) rfl ?_
          refine zg_iload dd_201_50 (j := 6) rfl ?_
          refine zg_bipush dd_201_52 kB_10 ?_
          refine zg_idiv dd_201_54 (by decide) ?_
          refine zg_istore dd_201_55 (Nat.le_of_ble_eq_true rfl) (lv' := [(6, .inl (v6 / (10 : Int32))), (4, .inl (v4 + (1 : Int32))), (5, .inl (0 : Int32)), (0, .inr (.inr (some 0))), (1, .inl v1), (2, .inl v2), (3, .inl v3)]) rfl ?_
          refine zg_goto (tgt := 17) dd_201_57 (by decide) ?_
          refine zg_sub [3, 4, 5, 6, 1, 2, 0] rfl ?_
          exact ih _ _ _ _ _ _ _ h
        · replace h := z_f h q31
          refine zg_iconst dd_201_40 kI_1 ?_
          refine zg_goto (tgt := 45) dd_201_41 (by decide) ?_
          refine zg_istore dd_201_45 (Nat.le_of_ble_eq_true rfl) (lv' := [(5, .inl (1 : Int32)), (0, .inr (.inr (some 0))), (1, .inl v1), (2, .inl v2), (3, .inl v3), (4, .inl v4), (6, .inl v6)]) rfl ?_
          refine zg_iinc dd_201_47 (j := 5) rfl (v := (v4 + (1 : Int32))) (by rw [kI_1]) (Nat.le_of_ble_eq_true rfl) (lv' := [(4, .inl (v4 + (1 : Int32))), (5, .inl (1 : Int32)), (0, .inr (.inr (some 0))), (1, .inl v1), (2, .inl v2), (3, .inl v3), (6, .inl v6)]) rfl ?_
          refine zg_iload dd_201_50 (j := 6) rfl ?_
          refine zg_bipush dd_201_52 kB_10 ?_
          refine zg_idiv dd_201_54 (by decide) ?_
          refine zg_istore dd_201_55 (Nat.le_of_ble_eq_true rfl) (lv' := [(6, .inl (v6 / (10 : Int32))), (4, .inl (v4 + (1 : Int32))), (5, .inl (1 : Int32)), (0, .inr (.inr (some 0))), (1, .inl v1), (2, .inl v2), (3, .inl v3)]) rfl ?_
          refine zg_goto (tgt := 17) dd_201_57 (by decide) ?_
          refine zg_sub [3, 4, 5, 6, 1, 2, 0] rfl ?_
          exact ih _ _ _ _ _ _ _ h
set_option maxRecDepth 20000 in
theorem jt_fm_walk_J12 {res : (Int32 × zI)} {I : zI} {v1 : Int32} {v2 : Int32} {v3 : Int32} {v4 : Int32} {x0 : Int32} (h : fm_walk_J12 I v1 v2 v3 v4 x0 = some res) : zG 3 ym_201 0 0 (some (.inl res.1)) (zMs, zMr, res.2) zMs.length 12 [(0, .inr (.inr (some 0))), (1, .inl v1), (2, .inl v2), (3, .inl v3), (4, .inl v4)] [.inl x0] (zMs, zMr, I) 0 0 := by
  rw [fm_walk_J12] at h
  refine zg_istore dd_201_12 (Nat.le_of_ble_eq_true rfl) (lv' := [(5, .inl x0), (0, .inr (.inr (some 0))), (1, .inl v1), (2, .inl v2), (3, .inl v3), (4, .inl v4)]) rfl ?_
  refine zg_iload_n dd_201_14 rfl (j := 4) rfl ?_
  refine zg_istore dd_201_15 (Nat.le_of_ble_eq_true rfl) (lv' := [(6, .inl v3), (5, .inl x0), (0, .inr (.inr (some 0))), (1, .inl v1), (2, .inl v2), (3, .inl v3), (4, .inl v4)]) rfl ?_
  refine zg_sub [2, 3, 4, 5, 6, 1, 0] rfl ?_
  refine lt_fm_walk_L17  _ _ _ _ _ _ _ _ h
set_option maxRecDepth 20000 in
theorem mt_fm_walk {I : zI} {a1 : Int32} {a2 : Int32} {a3 : Int32} {res : (Int32 × zI)} (h : fm_walk I a1 a2 a3 = some res) : zM 3 ym_201 [.inr (.inr (some 0)), .inl a1, .inl a2, .inl a3] (zMs, zMr, I) (some (.inl res.1)) (zMs, zMr, res.2) 0 0 := by
  refine zM_of (by decide) (Nat.le_of_ble_eq_true rfl) (lv := [(0, .inr (.inr (some 0))), (1, .inl a1), (2, .inl a2), (3, .inl a3)]) rfl ?_
  rw [fm_walk] at h
  refine zg_iconst dd_201_0 kI_0 ?_
  refine zg_istore dd_201_1 (Nat.le_of_ble_eq_true rfl) (lv' := [(4, .inl (0 : Int32)), (0, .inr (.inr (some 0))), (1, .inl a1), (2, .inl a2), (3, .inl a3)]) rfl ?_
  refine zg_iload_n dd_201_3 rfl (j := 4) rfl ?_
  refine zg_if_lt (tgt := 11) dd_201_4 (by decide) (fun q1 => ?_) (fun q1 => ?_)
  · replace h := z_t h q1
    refine zg_iconst dd_201_11 kI_0 ?_
    refine zg_sub [1, 2, 3, 4, 0] rfl ?_
    exact jt_fm_walk_J12 h
  · replace h := z_f h q1
    refine zg_iconst dd_201_7 kI_1 ?_
    refine zg_goto (tgt := 12) dd_201_8 (by decide) ?_
    refine zg_sub [1, 2, 3, 4, 0] rfl ?_
    exact jt_fm_walk_J12 h
/-! TurnedLandModel.walkOf[0, None, None] -/
def fm_walkOf (I : zI) (a1 : Int32) (a2 : Int32) : Option Int32 :=
  z_guard (zb (((66 : Int32) + ((12 : Int32) * a1)) + a2) 448) <|
  some (I 1 (((66 : Int32) + ((12 : Int32) * a1)) + a2).toNatClampNeg)
set_option maxRecDepth 20000 in
theorem mt_fm_walkOf {I : zI} {a1 : Int32} {a2 : Int32} {res : Int32} (h : fm_walkOf I a1 a2 = some res) : zM 1 ym_205 [.inr (.inr (some 0)), .inl a1, .inl a2] (zMs, zMr, I) (some (.inl res)) (zMs, zMr, I) 0 0 := by
  refine zM_of (by decide) (Nat.le_of_ble_eq_true rfl) (lv := [(0, .inr (.inr (some 0))), (1, .inl a1), (2, .inl a2)]) rfl ?_
  rw [fm_walkOf] at h
  refine zg_aload_n dd_205_0 rfl (j := 0) rfl ?_
  refine zg_getR dd_205_1 zl_M_9 zMs_0 rfl zMr_0_0 ?_
  refine zg_bipush dd_205_4 kB_66 ?_
  refine zg_bipush dd_205_6 kB_12 ?_
  refine zg_iload_n dd_205_8 rfl (j := 1) rfl ?_
  refine zg_imul dd_205_9 ?_
  refine zg_iadd dd_205_10 ?_
  refine zg_iload_n dd_205_11 rfl (j := 2) rfl ?_
  refine zg_iadd dd_205_12 ?_
  obtain ⟨g1, h⟩ := z_gd h
  refine zg_iald (w := (I 1 (((66 : Int32) + ((12 : Int32) * a1)) + a2).toNatClampNeg)) dd_205_13 zMs_1 g1 rfl ?_
  obtain rfl := Option.some.inj h
  exact zg_iret dd_205_14 rfl
/-! TurnedLandModel.goes[0, None, None] -/
def fm_goes_L41 : Nat → Int32 → zI → Option (Int32 × zI)
  | 0, _, _ => none
  | nf + 1, v1, I =>
    (fm_walkOf I v1 (2 : Int32)).bind fun r3 =>
    if r3 ≤ (I 0 21) then
      (fm_walkOf I v1 (2 : Int32)).bind fun r6 =>
      if (I 0 21) = r6 then
        some ((1 : Int32), I)
      else
        some ((0 : Int32), I)
    else
      (fm_walkOf I v1 ((4 : Int32) + (I 0 21))).bind fun r9 =>
      (fm_crosses I (I 0 17) r9).bind fun r11 =>
      if r11.1 = 0 then
        (fm_walkOf r11.2 v1 (2 : Int32)).bind fun r14 =>
        if (r11.2 0 21) = r14 then
          some ((1 : Int32), r11.2)
        else
          some ((0 : Int32), r11.2)
      else
        fm_goes_L41 nf v1 (zup (zup (zup (zup (zup r11.2 0 19 ((r11.2 0 19) + (((r11.2 0 14) ^^^ (r11.2 0 17)) &&& (1 : Int32)))) 0 17 (r11.2 0 14)) 0 18 ((r11.2 0 18) + (r11.2 0 15))) 0 20 ((r11.2 0 20) ||| ((1 : Int32) <<< (((r11.2 0 14) / (2 : Int32)) &&& 31)))) 0 21 ((r11.2 0 21) + (1 : Int32)))
def fm_goes (I : zI) (a1 : Int32) (a2 : Int32) : Option (Int32 × zI) :=
  (fm_walkOf I a1 (1 : Int32)).bind fun r1 =>
  fm_goes_L41
    100 a1 (zup (zup (zup (zup (zup I 0 17 (((2 : Int32) * r1) + a2)) 0 18 (0 : Int32)) 0 19 (0 : Int32)) 0 20 ((1 : Int32) <<< (((((2 : Int32) * r1) + a2) / (2 : Int32)) &&& 31))) 0 21 (0 : Int32))
set_option maxRecDepth 20000 in
theorem lt_fm_goes_L41 {res : (Int32 × zI)} : ∀ (nf : Nat) (v1 : Int32) (I : zI), fm_goes_L41 nf v1 I = some res → zG 5 ym_204 0 0 (some (.inl res.1)) (zMs, zMr, res.2) zMs.length 41 [(0, .inr (.inr (some 0))), (1, .inl v1)] [] (zMs, zMr, I) 0 0 := by
  intro nf
  induction nf with
  | zero =>
    intro v1 I h
    have h2 : none = some res := h
    cases h2
  | succ nf ih =>
    intro v1 I h
    rw [fm_goes_L41] at h
    refine zg_aload_n dd_204_41 rfl (j := 0) rfl ?_
    refine zg_getI (x := (I 0 21)) dd_204_42 zl_M_251 zMs_0 rfl rfl ?_
    refine zg_aload_n dd_204_45 rfl (j := 0) rfl ?_
    refine zg_iload_n dd_204_46 rfl (j := 1) rfl ?_
    refine zg_iconst dd_204_47 kI_2 ?_
    obtain ⟨r3, e4, h⟩ := z_bd h
    refine zg_invV_i (av := [.inl v1, .inl (2 : Int32)]) (st := [.inl (I 0 21)]) (n := 2) dd_204_48 ca_205 zw_1408 zw_1410 zv_65 zMs_0 zcl_12 rfl (mt_fm_walkOf e4) rfl ⟨by decide +kernel, by decide⟩ (Nat.le_of_ble_eq_true rfl) ?_
    refine zg_icmp_ge (tgt := 147) dd_204_51 (by decide) (fun q5 => ?_) (fun q5 => ?_)
    · replace h := z_t h q5
      refine zg_aload_n dd_204_147 rfl (j := 0) rfl ?_
      refine zg_getI (x := (I 0 21)) dd_204_148 zl_M_251 zMs_0 rfl rfl ?_
      refine zg_aload_n dd_204_151 rfl (j := 0) rfl ?_
      refine zg_iload_n dd_204_152 rfl (j := 1) rfl ?_
      refine zg_iconst dd_204_153 kI_2 ?_
      obtain ⟨r6, e7, h⟩ := z_bd h
      refine zg_invV_i (av := [.inl v1, .inl (2 : Int32)]) (st := [.inl (I 0 21)]) (n := 2) dd_204_154 ca_205 zw_1408 zw_1410 zv_65 zMs_0 zcl_12 rfl (mt_fm_walkOf e7) rfl ⟨by decide +kernel, by decide⟩ (Nat.le_of_ble_eq_true rfl) ?_
      refine zg_icmp_ne (tgt := 164) dd_204_157 (by decide) (fun q8 => ?_) (fun q8 => ?_)
      · replace h := z_f h q8
        refine zg_iconst dd_204_164 kI_0 ?_
        obtain rfl := Option.some.inj h
        exact zg_zret dd_204_165 rfl zSt_b0.1
      · replace h := z_t h q8
        refine zg_iconst dd_204_160 kI_1 ?_
        refine zg_goto (tgt := 165) dd_204_161 (by decide) ?_
        obtain rfl := Option.some.inj h
        exact zg_zret dd_204_165 rfl zSt_b1.1
    · replace h := z_f h q5
      refine zg_aload_n dd_204_54 rfl (j := 0) rfl ?_
      refine zg_aload_n dd_204_55 rfl (j := 0) rfl ?_
      refine zg_getI (x := (I 0 17)) dd_204_56 zl_M_239 zMs_0 rfl rfl ?_
      refine zg_aload_n dd_204_59 rfl (j := 0) rfl ?_
      refine zg_iload_n dd_204_60 rfl (j := 1) rfl ?_
      refine zg_iconst dd_204_61 kI_4 ?_
      refine zg_aload_n dd_204_62 rfl (j := 0) rfl ?_
      refine zg_getI (x := (I 0 21)) dd_204_63 zl_M_251 zMs_0 rfl rfl ?_
      refine zg_iadd dd_204_66 ?_
      obtain ⟨r9, e10, h⟩ := z_bd h
      refine zg_invV_i (av := [.inl v1, .inl ((4 : Int32) + (I 0 21))]) (st := [.inl (I 0 17), .inr (.inr (some 0))]) (n := 2) dd_204_67 ca_205 zw_1408 zw_1410 zv_65 zMs_0 zcl_12 rfl (mt_fm_walkOf e10) rfl ⟨by decide +kernel, by decide⟩ (Nat.le_of_ble_eq_true rfl) ?_
      obtain ⟨r11, e12, h⟩ := z_bd h
      refine zg_invV_i (av := [.inl (I 0 17), .inl r9]) (st := []) (n := 2) dd_204_70 ca_193 zw_1370 zw_1372 zv_61 zMs_0 zcl_12 rfl (mt_fm_crosses e12) rfl ⟨by decide +kernel, by decide⟩ (Nat.le_of_ble_eq_true rfl) ?_
      refine zg_if_eq (tgt := 147) dd_204_73 (by decide) (fun q13 => ?_) (fun q13 => ?_)
      · replace h := z_t h q13
        refine zg_aload_n dd_204_147 rfl (j := 0) rfl ?_
        refine zg_getI (x := (r11.2 0 21)) dd_204_148 zl_M_251 zMs_0 rfl rfl ?_
        refine zg_aload_n dd_204_151 rfl (j := 0) rfl ?_
        refine zg_iload_n dd_204_152 rfl (j := 1) rfl ?_
        refine zg_iconst dd_204_153 kI_2 ?_
        obtain ⟨r14, e15, h⟩ := z_bd h
        refine zg_invV_i (av := [.inl v1, .inl (2 : Int32)]) (st := [.inl (r11.2 0 21)]) (n := 2) dd_204_154 ca_205 zw_1408 zw_1410 zv_65 zMs_0 zcl_12 rfl (mt_fm_walkOf e15) rfl ⟨by decide +kernel, by decide⟩ (Nat.le_of_ble_eq_true rfl) ?_
        refine zg_icmp_ne (tgt := 164) dd_204_157 (by decide) (fun q16 => ?_) (fun q16 => ?_)
        · replace h := z_f h q16
          refine zg_iconst dd_204_164 kI_0 ?_
          obtain rfl := Option.some.inj h
          exact zg_zret dd_204_165 rfl zSt_b0.1
        · replace h := z_t h q16
          refine zg_iconst dd_204_160 kI_1 ?_
          refine zg_goto (tgt := 165) dd_204_161 (by decide) ?_
          obtain rfl := Option.some.inj h
          exact zg_zret dd_204_165 rfl zSt_b1.1
      · replace h := z_f h q13
        refine zg_aload_n dd_204_76 rfl (j := 0) rfl ?_
        refine zg_dup dd_204_77 rfl ?_
        refine zg_getI (x := (r11.2 0 19)) dd_204_78 zl_M_245 zMs_0 rfl rfl ?_
        refine zg_aload_n dd_204_81 rfl (j := 0) rfl ?_
        refine zg_getI (x := (r11.2 0 14)) dd_204_82 zl_M_209 zMs_0 rfl rfl ?_
        refine zg_aload_n dd_204_85 rfl (j := 0) rfl ?_
        refine zg_getI (x := (r11.2 0 17)) dd_204_86 zl_M_239 zMs_0 rfl rfl ?_
        refine zg_ixor dd_204_89 ?_
        refine zg_iconst dd_204_90 kI_1 ?_
        refine zg_iand dd_204_91 ?_
        refine zg_iadd dd_204_92 ?_
        refine zg_putI dd_204_93 zp_M_245 zMs_0 rfl (zSt_int _) ?_
        refine zg_aload_n dd_204_96 rfl (j := 0) rfl ?_
        refine zg_aload_n dd_204_97 rfl (j := 0) rfl ?_
        refine zg_getI (x := (r11.2 0 14)) dd_204_98 zl_M_209 zMs_0 rfl rfl ?_
        refine zg_putI dd_204_101 zp_M_239 zMs_0 rfl (zSt_int _) ?_
        refine zg_aload_n dd_204_104 rfl (j := 0) rfl ?_
        refine zg_dup dd_204_105 rfl ?_
        refine zg_getI (x := (r11.2 0 18)) dd_204_106 zl_M_242 zMs_0 rfl rfl ?_
        refine zg_aload_n dd_204_109 rfl (j := 0) rfl ?_
        refine zg_getI (x := (r11.2 0 15)) dd_204_110 zl_M_216 zMs_0 rfl rfl ?_
        refine zg_iadd dd_204_113 ?_
        refine zg_putI dd_204_114 zp_M_242 zMs_0 rfl (zSt_int _) ?_
        refine zg_aload_n dd_204_117 rfl (j := 0) rfl ?_
        refine zg_dup dd_204_118 rfl ?_
        refine zg_getI (x := (r11.2 0 20)) dd_204_119 zl_M_248 zMs_0 rfl rfl ?_
        refine zg_iconst dd_204_122 kI_1 ?_
        refine zg_aload_n dd_204_123 rfl (j := 0) rfl ?_
        refine zg_getI (x := (r11.2 0 14)) dd_204_124 zl_M_239 zMs_0 rfl rfl ?_
        refine zg_iconst dd_204_127 kI_2 ?_
        refine zg_idiv dd_204_128 (by decide) ?_
        refine zg_ishl dd_204_129 ?_
        refine zg_ior dd_204_130 ?_
        refine zg_putI dd_204_131 zp_M_248 zMs_0 rfl (zSt_int _) ?_
        refine zg_aload_n dd_204_134 rfl (j := 0) rfl ?_
        refine zg_dup dd_204_135 rfl ?_
        refine zg_getI (x := (r11.2 0 21)) dd_204_136 zl_M_251 zMs_0 rfl rfl ?_
        refine zg_iconst dd_204_139 kI_1 ?_
        refine zg_iadd dd_204_140 ?_
        refine zg_putI dd_204_141 zp_M_251 zMs_0 rfl (zSt_int _) ?_
        refine zg_goto (tgt := 41) dd_204_144 (by decide) ?_
        refine zg_sub [0, 1] rfl ?_
        exact ih _ _ h
set_option maxRecDepth 20000 in
theorem mt_fm_goes {I : zI} {a1 : Int32} {a2 : Int32} {res : (Int32 × zI)} (h : fm_goes I a1 a2 = some res) : zM 5 ym_204 [.inr (.inr (some 0)), .inl a1, .inl a2] (zMs, zMr, I) (some (.inl res.1)) (zMs, zMr, res.2) 0 0 := by
  refine zM_of (by decide) (Nat.le_of_ble_eq_true rfl) (lv := [(0, .inr (.inr (some 0))), (1, .inl a1), (2, .inl a2)]) rfl ?_
  rw [fm_goes] at h
  refine zg_aload_n dd_204_0 rfl (j := 0) rfl ?_
  refine zg_iconst dd_204_1 kI_2 ?_
  refine zg_aload_n dd_204_2 rfl (j := 0) rfl ?_
  refine zg_iload_n dd_204_3 rfl (j := 1) rfl ?_
  refine zg_iconst dd_204_4 kI_1 ?_
  obtain ⟨r1, e2, h⟩ := z_bd h
  refine zg_invV_i (av := [.inl a1, .inl (1 : Int32)]) (st := [.inl (2 : Int32), .inr (.inr (some 0))]) (n := 2) dd_204_5 ca_205 zw_1408 zw_1410 zv_65 zMs_0 zcl_12 rfl (mt_fm_walkOf e2) rfl ⟨by decide +kernel, by decide⟩ (Nat.le_of_ble_eq_true rfl) ?_
  refine zg_imul dd_204_8 ?_
  refine zg_iload_n dd_204_9 rfl (j := 2) rfl ?_
  refine zg_iadd dd_204_10 ?_
  refine zg_putI dd_204_11 zp_M_239 zMs_0 rfl (zSt_int _) ?_
  refine zg_aload_n dd_204_14 rfl (j := 0) rfl ?_
  refine zg_iconst dd_204_15 kI_0 ?_
  refine zg_putI dd_204_16 zp_M_242 zMs_0 rfl (zSt_int _) ?_
  refine zg_aload_n dd_204_19 rfl (j := 0) rfl ?_
  refine zg_iconst dd_204_20 kI_0 ?_
  refine zg_putI dd_204_21 zp_M_245 zMs_0 rfl (zSt_int _) ?_
  refine zg_aload_n dd_204_24 rfl (j := 0) rfl ?_
  refine zg_iconst dd_204_25 kI_1 ?_
  refine zg_aload_n dd_204_26 rfl (j := 0) rfl ?_
  refine zg_getI (x := (((2 : Int32) * r1) + a2)) dd_204_27 zl_M_239 zMs_0 rfl rfl ?_
  refine zg_iconst dd_204_30 kI_2 ?_
  refine zg_idiv dd_204_31 (by decide) ?_
  refine zg_ishl dd_204_32 ?_
  refine zg_putI dd_204_33 zp_M_248 zMs_0 rfl (zSt_int _) ?_
  refine zg_aload_n dd_204_36 rfl (j := 0) rfl ?_
  refine zg_iconst dd_204_37 kI_0 ?_
  refine zg_putI dd_204_38 zp_M_251 zMs_0 rfl (zSt_int _) ?_
  refine zg_sub [0, 1] rfl ?_
  refine lt_fm_goes_L41  _ _ _ h
