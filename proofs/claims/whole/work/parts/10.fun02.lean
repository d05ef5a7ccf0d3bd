/-! TurnedLand$Ground.hasPlace[2, None] -/
def fc_Ground_hasPlace (I : zI) (a1 : Int32) : Option Int32 :=
  (fc_T_within I a1 (0 : Int32) (((2 : Int32) * (I 2 0)) - (1 : Int32))).bind fun r1 =>
  z_guard (zbb r1) <|
  some r1
set_option maxRecDepth 20000 in
theorem mt_fc_Ground_hasPlace {I : zI} {a1 : Int32} {res : Int32} (h : fc_Ground_hasPlace I a1 = some res) : zM 2 ym_50 [.inr (.inr (some 2)), .inl a1] (zCs, zCr, I) (some (.inl res)) (zCs, zCr, I) 0 0 := by
  refine zM_of (by decide) (Nat.le_of_ble_eq_true rfl) (lv := [(0, .inr (.inr (some 2))), (1, .inl a1)]) rfl ?_
  rw [fc_Ground_hasPlace] at h
  refine zg_iload_n dd_50_0 rfl (j := 1) rfl ?_
  refine zg_iconst dd_50_1 kI_0 ?_
  refine zg_iconst dd_50_2 kI_2 ?_
  refine zg_aload_n dd_50_3 rfl (j := 0) rfl ?_
  refine zg_getI (x := (I 2 0)) dd_50_4 zl_Ground_9 zCs_2 rfl rfl ?_
  refine zg_imul dd_50_7 ?_
  refine zg_iconst dd_50_8 kI_1 ?_
  refine zg_isub dd_50_9 ?_
  obtain ⟨r1, e2, h⟩ := z_bd h
  refine zg_invSN_i (av := [.inl a1, .inl (0 : Int32), .inl (((2 : Int32) * (I 2 0)) - (1 : Int32))]) (st := []) (n := 3) dd_50_10 ca_1 (List.mem_of_getElem? (i := 10) rfl) zw_428 (mt_fc_T_within e2) rfl ⟨by decide +kernel, by decide⟩ (Nat.le_of_ble_eq_true rfl) ?_
  obtain ⟨g3, h⟩ := z_gd h
  obtain rfl := Option.some.inj h
  exact zg_zret dd_50_13 rfl (zSt_bb g3).1
/-! TurnedLand$Ground.comesTo[2, None, None] -/
def fc_Ground_comesTo (I : zI) (a1 : Int32) (a2 : Int32) : Option Int32 :=
  (fc_Ground_otherEdge I (((4 : Int32) * (a1 / (2 : Int32))) + a2)).bind fun r1 =>
  if r1 = (-1 : Int32) then
    some (-1 : Int32)
  else
    z_guard (zb (((4 : Int32) * (a1 / (2 : Int32))) + a2) 32) <|
    z_guard (zb (I 6 (((4 : Int32) * (a1 / (2 : Int32))) + a2).toNatClampNeg) 16) <|
    some (((2 : Int32) * (r1 / (4 : Int32))) + ((a1 % (2 : Int32)) ^^^ (I 5 (I 6 (((4 : Int32) * (a1 / (2 : Int32))) + a2).toNatClampNeg).toNatClampNeg)))
set_option maxRecDepth 20000 in
theorem mt_fc_Ground_comesTo {I : zI} {a1 : Int32} {a2 : Int32} {res : Int32} (h : fc_Ground_comesTo I a1 a2 = some res) : zM 3 ym_52 [.inr (.inr (some 2)), .inl a1, .inl a2] (zCs, zCr, I) (some (.inl res)) (zCs, zCr, I) 0 0 := by
  refine zM_of (by decide) (Nat.le_of_ble_eq_true rfl) (lv := [(0, .inr (.inr (some 2))), (1, .inl a1), (2, .inl a2)]) rfl ?_
  rw [fc_Ground_comesTo] at h
  refine zg_iconst dd_52_0 kI_4 ?_
  refine zg_iload_n dd_52_1 rfl (j := 1) rfl ?_
  refine zg_iconst dd_52_2 kI_2 ?_
  refine zg_idiv dd_52_3 (by decide) ?_
  refine zg_imul dd_52_4 ?_
  refine zg_iload_n dd_52_5 rfl (j := 2) rfl ?_
  refine zg_iadd dd_52_6 ?_
  refine zg_istore_n dd_52_7 rfl (Nat.le_of_ble_eq_true rfl) (lv' := [(3, .inl (((4 : Int32) * (a1 / (2 : Int32))) + a2)), (0, .inr (.inr (some 2))), (1, .inl a1), (2, .inl a2)]) rfl ?_
  refine zg_aload_n dd_52_8 rfl (j := 1) rfl ?_
  refine zg_iload_n dd_52_9 rfl (j := 0) rfl ?_
  obtain ⟨r1, e2, h⟩ := z_bd h
  refine zg_invV_i (av := [.inl (((4 : Int32) * (a1 / (2 : Int32))) + a2)]) (st := []) (n := 1) dd_52_10 ca_15 zw_643 zw_486 zw_487 zCs_2 zcl_2 rfl (mt_fc_Ground_otherEdge e2) rfl ⟨by decide +kernel, by decide⟩ (Nat.le_of_ble_eq_true rfl) ?_
  refine zg_istore dd_52_13 (Nat.le_of_ble_eq_true rfl) (lv' := [(4, .inl r1), (3, .inl (((4 : Int32) * (a1 / (2 : Int32))) + a2)), (0, .inr (.inr (some 2))), (1, .inl a1), (2, .inl a2)]) rfl ?_
  refine zg_iload dd_52_15 (j := 0) rfl ?_
  refine zg_iconst dd_52_17 kI_m1 ?_
  refine zg_icmp_ne (tgt := 23) dd_52_18 (by decide) (fun q3 => ?_) (fun q3 => ?_)
  · replace h := z_f h q3
    refine zg_iconst dd_52_23 kI_2 ?_
    refine zg_iload dd_52_24 (j := 0) rfl ?_
    refine zg_iconst dd_52_26 kI_4 ?_
    refine zg_idiv dd_52_27 (by decide) ?_
    refine zg_imul dd_52_28 ?_
    refine zg_iload_n dd_52_29 rfl (j := 3) rfl ?_
    refine zg_iconst dd_52_30 kI_2 ?_
    refine zg_irem dd_52_31 (by decide) ?_
    refine zg_aload_n dd_52_32 rfl (j := 2) rfl ?_
    refine zg_getR dd_52_33 zl_Ground_25 zCs_2 rfl zCr_2_4 ?_
    refine zg_aload_n dd_52_36 rfl (j := 2) rfl ?_
    refine zg_getR dd_52_37 zl_Ground_28 zCs_2 rfl zCr_2_5 ?_
    refine zg_iload_n dd_52_40 rfl (j := 1) rfl ?_
    obtain ⟨g4, h⟩ := z_gd h
    refine zg_iald (w := (I 6 (((4 : Int32) * (a1 / (2 : Int32))) + a2).toNatClampNeg)) dd_52_41 zCs_6 g4 rfl ?_
    obtain ⟨g5, h⟩ := z_gd h
    refine zg_iald (w := (I 5 (I 6 (((4 : Int32) * (a1 / (2 : Int32))) + a2).toNatClampNeg).toNatClampNeg)) dd_52_42 zCs_5 g5 rfl ?_
    refine zg_ixor dd_52_43 ?_
    refine zg_iadd dd_52_44 ?_
    obtain rfl := Option.some.inj h
    exact zg_iret dd_52_45 rfl
  · replace h := z_t h q3
    refine zg_iconst dd_52_21 kI_m1 ?_
    obtain rfl := Option.some.inj h
    exact zg_iret dd_52_22 rfl
/-! TurnedLand$Text.valueAt[35, None] -/
def fc_Text_valueAt (I : zI) (a1 : Int32) : Option Int32 :=
  z_guard (zb a1 60) <|
  if (I 36 a1.toNatClampNeg) = 0 then
    some (I 37 a1.toNatClampNeg)
  else
    (fc_T_within I (I 37 a1.toNatClampNeg) (0 : Int32) (3 : Int32)).bind fun r3 =>
    if r3 = 0 then
      some (0 : Int32)
    else
      z_guard (zb (I 37 a1.toNatClampNeg) 4) <|
      some (I 39 (I 37 a1.toNatClampNeg).toNatClampNeg)
set_option maxRecDepth 20000 in
theorem mt_fc_Text_valueAt {I : zI} {a1 : Int32} {res : Int32} (h : fc_Text_valueAt I a1 = some res) : zM 2 ym_55 [.inr (.inr (some 35)), .inl a1] (zCs, zCr, I) (some (.inl res)) (zCs, zCr, I) 0 0 := by
  refine zM_of (by decide) (Nat.le_of_ble_eq_true rfl) (lv := [(0, .inr (.inr (some 35))), (1, .inl a1)]) rfl ?_
  rw [fc_Text_valueAt] at h
  refine zg_aload_n dd_55_0 rfl (j := 0) rfl ?_
  refine zg_getR dd_55_1 zl_Text_23 zCs_35 rfl zCr_35_3 ?_
  refine zg_iload_n dd_55_4 rfl (j := 1) rfl ?_
  obtain ⟨g1, h⟩ := z_gd h
  refine zg_iald (w := (I 37 a1.toNatClampNeg)) dd_55_5 zCs_37 g1 rfl ?_
  refine zg_istore_n dd_55_6 rfl (Nat.le_of_ble_eq_true rfl) (lv' := [(2, .inl (I 37 a1.toNatClampNeg)), (0, .inr (.inr (some 35))), (1, .inl a1)]) rfl ?_
  refine zg_aload_n dd_55_7 rfl (j := 1) rfl ?_
  refine zg_getR dd_55_8 zl_Text_19 zCs_35 rfl zCr_35_2 ?_
  refine zg_iload_n dd_55_11 rfl (j := 2) rfl ?_
  refine zg_iald (w := (I 36 a1.toNatClampNeg)) dd_55_12 zCs_36 g1 rfl ?_
  refine zg_if_ne (tgt := 18) dd_55_13 (by decide) (fun q2 => ?_) (fun q2 => ?_)
  · replace h := z_f h q2
    refine zg_iload_n dd_55_18 rfl (j := 0) rfl ?_
    refine zg_iconst dd_55_19 kI_0 ?_
    refine zg_iconst dd_55_20 kI_3 ?_
    obtain ⟨r3, e4, h⟩ := z_bd h
    refine zg_invSN_i (av := [.inl (I 37 a1.toNatClampNeg), .inl (0 : Int32), .inl (3 : Int32)]) (st := []) (n := 3) dd_55_21 ca_1 (List.mem_of_getElem? (i := 12) rfl) zw_428 (mt_fc_T_within e4) rfl ⟨by decide +kernel, by decide⟩ (Nat.le_of_ble_eq_true rfl) ?_
    refine zg_if_eq (tgt := 36) dd_55_24 (by decide) (fun q5 => ?_) (fun q5 => ?_)
    · replace h := z_t h q5
      refine zg_iconst dd_55_36 kI_0 ?_
      obtain rfl := Option.some.inj h
      exact zg_iret dd_55_37 rfl
    · replace h := z_f h q5
      refine zg_aload_n dd_55_27 rfl (j := 1) rfl ?_
      refine zg_getR dd_55_28 zl_Text_29 zCs_35 rfl zCr_35_5 ?_
      refine zg_iload_n dd_55_31 rfl (j := 0) rfl ?_
      obtain ⟨g6, h⟩ := z_gd h
      refine zg_iald (w := (I 39 (I 37 a1.toNatClampNeg).toNatClampNeg)) dd_55_32 zCs_39 g6 rfl ?_
      refine zg_goto (tgt := 37) dd_55_33 (by decide) ?_
      obtain rfl := Option.some.inj h
      exact zg_iret dd_55_37 rfl
  · replace h := z_t h q2
    refine zg_iload_n dd_55_16 rfl (j := 0) rfl ?_
    obtain rfl := Option.some.inj h
    exact zg_iret dd_55_17 rfl
/-! TurnedLand$Text.bit[None] -/
def fc_Text_bit (I : zI) (a0 : Int32) : Option Int32 :=
  if a0 = 0 then
    some (0 : Int32)
  else
    some (1 : Int32)
set_option maxRecDepth 20000 in
theorem mt_fc_Text_bit {I : zI} {a0 : Int32} {res : Int32} (h : fc_Text_bit I a0 = some res) : zM 1 ym_57 [.inl a0] (zCs, zCr, I) (some (.inl res)) (zCs, zCr, I) 0 0 := by
  refine zM_of (by decide) (Nat.le_of_ble_eq_true rfl) (lv := [(0, .inl a0)]) rfl ?_
  rw [fc_Text_bit] at h
  refine zg_iload_n dd_57_0 rfl (j := 0) rfl ?_
  refine zg_if_eq (tgt := 8) dd_57_1 (by decide) (fun q1 => ?_) (fun q1 => ?_)
  · replace h := z_t h q1
    refine zg_iconst dd_57_8 kI_0 ?_
    obtain rfl := Option.some.inj h
    exact zg_iret dd_57_9 rfl
  · replace h := z_f h q1
    refine zg_iconst dd_57_4 kI_1 ?_
    refine zg_goto (tgt := 9) dd_57_5 (by decide) ?_
    obtain rfl := Option.some.inj h
    exact zg_iret dd_57_9 rfl
/-! TurnedLand$Text.combine[None, None, None] -/
def fc_Text_combine (I : zI) (a0 : Int32) (a1 : Int32) (a2 : Int32) : Option Int32 :=
  if a0 = (37 : Int32) then
    if a2 = 0 then
      some (0 : Int32)
    else
      if a2 = 0 then none else
      some (a1 % a2)
  else if a0 = (38 : Int32) then
    if a1 = 0 then
      (fc_Text_bit I (0 : Int32)).bind fun r6 =>
      some r6
    else
      if a2 = 0 then
        (fc_Text_bit I (0 : Int32)).bind fun r9 =>
        some r9
      else
        (fc_Text_bit I (1 : Int32)).bind fun r11 =>
        some r11
  else if a0 = (42 : Int32) then
    some (a1 * a2)
  else if a0 = (43 : Int32) then
    some (a1 + a2)
  else if a0 = (45 : Int32) then
    some (a1 - a2)
  else if a0 = (47 : Int32) then
    if a2 = 0 then
      some (0 : Int32)
    else
      if a2 = 0 then none else
      some (a1 / a2)
  else if a0 = (60 : Int32) then
    if a2 ≤ a1 then
      (fc_Text_bit I (0 : Int32)).bind fun r21 =>
      some r21
    else
      (fc_Text_bit I (1 : Int32)).bind fun r23 =>
      some r23
  else if a0 = (61 : Int32) then
    if a1 = a2 then
      (fc_Text_bit I (1 : Int32)).bind fun r29 =>
      some r29
    else
      (fc_Text_bit I (0 : Int32)).bind fun r27 =>
      some r27
  else if a0 = (62 : Int32) then
    if a1 ≤ a2 then
      (fc_Text_bit I (0 : Int32)).bind fun r33 =>
      some r33
    else
      (fc_Text_bit I (1 : Int32)).bind fun r35 =>
      some r35
  else if a0 = (124 : Int32) then
    if a1 = 0 then
      if a2 = 0 then
        (fc_Text_bit I (0 : Int32)).bind fun r42 =>
        some r42
      else
        (fc_Text_bit I (1 : Int32)).bind fun r44 =>
        some r44
    else
      (fc_Text_bit I (1 : Int32)).bind fun r39 =>
      some r39
  else
    some (0 : Int32)
set_option maxRecDepth 20000 in
theorem mt_fc_Text_combine {I : zI} {a0 : Int32} {a1 : Int32} {a2 : Int32} {res : Int32} (h : fc_Text_combine I a0 a1 a2 = some res) : zM 2 ym_56 [.inl a0, .inl a1, .inl a2] (zCs, zCr, I) (some (.inl res)) (zCs, zCr, I) 0 0 := by
  refine zM_of (by decide) (Nat.le_of_ble_eq_true rfl) (lv := [(0, .inl a0), (1, .inl a1), (2, .inl a2)]) rfl ?_
  rw [fc_Text_combine] at h
  refine zg_iload_n dd_56_0 rfl (j := 0) rfl ?_
  rcases z_if h with ⟨q1, h⟩ | ⟨q1, h⟩
  · refine zg_lookIn (tgt := 116) 115 dd_56_1 (by decide) q1 (by decide) (by decide) ?_
    refine zg_iload_n dd_56_116 rfl (j := 2) rfl ?_
    refine zg_if_ne (tgt := 124) dd_56_117 (by decide) (fun q2 => ?_) (fun q2 => ?_)
    · replace h := z_f h q2
      refine zg_iload_n dd_56_124 rfl (j := 1) rfl ?_
      refine zg_iload_n dd_56_125 rfl (j := 2) rfl ?_
      rcases z_if h with ⟨_, h⟩ | ⟨g3, h⟩
      · cases h
      refine zg_irem dd_56_126 g3 ?_
      obtain rfl := Option.some.inj h
      exact zg_iret dd_56_127 rfl
    · replace h := z_t h q2
      refine zg_iconst dd_56_120 kI_0 ?_
      refine zg_goto (tgt := 127) dd_56_121 (by decide) ?_
      obtain rfl := Option.some.inj h
      exact zg_iret dd_56_127 rfl
  rcases z_if h with ⟨q4, h⟩ | ⟨q4, h⟩
  · refine zg_lookIn (tgt := 170) 169 dd_56_1 (by decide) q4 (by decide) (by decide) ?_
    refine zg_iload_n dd_56_170 rfl (j := 1) rfl ?_
    refine zg_if_eq (tgt := 182) dd_56_171 (by decide) (fun q5 => ?_) (fun q5 => ?_)
    · replace h := z_t h q5
      refine zg_iconst dd_56_182 kI_0 ?_
      obtain ⟨r6, e7, h⟩ := z_bd h
      refine zg_invS_i (av := [.inl (0 : Int32)]) (st := []) (n := 1) dd_56_183 ca_57 zw_658 zw_659 (mt_fc_Text_bit e7) rfl ⟨by decide +kernel, by decide⟩ (Nat.le_of_ble_eq_true rfl) ?_
      obtain rfl := Option.some.inj h
      exact zg_iret dd_56_186 rfl
    · replace h := z_f h q5
      refine zg_iload_n dd_56_174 rfl (j := 2) rfl ?_
      refine zg_if_eq (tgt := 182) dd_56_175 (by decide) (fun q8 => ?_) (fun q8 => ?_)
      · replace h := z_t h q8
        refine zg_iconst dd_56_182 kI_0 ?_
        obtain ⟨r9, e10, h⟩ := z_bd h
        refine zg_invS_i (av := [.inl (0 : Int32)]) (st := []) (n := 1) dd_56_183 ca_57 zw_658 zw_659 (mt_fc_Text_bit e10) rfl ⟨by decide +kernel, by decide⟩ (Nat.le_of_ble_eq_true rfl) ?_
        obtain rfl := Option.some.inj h
        exact zg_iret dd_56_186 rfl
      · replace h := z_f h q8
        refine zg_iconst dd_56_178 kI_1 ?_
        refine zg_goto (tgt := 183) dd_56_179 (by decide) ?_
        obtain ⟨r11, e12, h⟩ := z_bd h
        refine zg_invS_i (av := [.inl (1 : Int32)]) (st := []) (n := 1) dd_56_183 ca_57 zw_658 zw_659 (mt_fc_Text_bit e12) rfl ⟨by decide +kernel, by decide⟩ (Nat.le_of_ble_eq_true rfl) ?_
        obtain rfl := Option.some.inj h
        exact zg_iret dd_56_186 rfl
  rcases z_if h with ⟨q13, h⟩ | ⟨q13, h⟩
  · refine zg_lookIn (tgt := 100) 99 dd_56_1 (by decide) q13 (by decide) (by decide) ?_
    refine zg_iload_n dd_56_100 rfl (j := 1) rfl ?_
    refine zg_iload_n dd_56_101 rfl (j := 2) rfl ?_
    refine zg_imul dd_56_102 ?_
    obtain rfl := Option.some.inj h
    exact zg_iret dd_56_103 rfl
  rcases z_if h with ⟨q14, h⟩ | ⟨q14, h⟩
  · refine zg_lookIn (tgt := 92) 91 dd_56_1 (by decide) q14 (by decide) (by decide) ?_
    refine zg_iload_n dd_56_92 rfl (j := 1) rfl ?_
    refine zg_iload_n dd_56_93 rfl (j := 2) rfl ?_
    refine zg_iadd dd_56_94 ?_
    obtain rfl := Option.some.inj h
    exact zg_iret dd_56_95 rfl
  rcases z_if h with ⟨q15, h⟩ | ⟨q15, h⟩
  · refine zg_lookIn (tgt := 96) 95 dd_56_1 (by decide) q15 (by decide) (by decide) ?_
    refine zg_iload_n dd_56_96 rfl (j := 1) rfl ?_
    refine zg_iload_n dd_56_97 rfl (j := 2) rfl ?_
    refine zg_isub dd_56_98 ?_
    obtain rfl := Option.some.inj h
    exact zg_iret dd_56_99 rfl
  rcases z_if h with ⟨q16, h⟩ | ⟨q16, h⟩
  · refine zg_lookIn (tgt := 104) 103 dd_56_1 (by decide) q16 (by decide) (by decide) ?_
    refine zg_iload_n dd_56_104 rfl (j := 2) rfl ?_
    refine zg_if_ne (tgt := 112) dd_56_105 (by decide) (fun q17 => ?_) (fun q17 => ?_)
    · replace h := z_f h q17
      refine zg_iload_n dd_56_112 rfl (j := 1) rfl ?_
      refine zg_iload_n dd_56_113 rfl (j := 2) rfl ?_
      rcases z_if h with ⟨_, h⟩ | ⟨g18, h⟩
      · cases h
      refine zg_idiv dd_56_114 g18 ?_
      obtain rfl := Option.some.inj h
      exact zg_iret dd_56_115 rfl
    · replace h := z_t h q17
      refine zg_iconst dd_56_108 kI_0 ?_
      refine zg_goto (tgt := 115) dd_56_109 (by decide) ?_
      obtain rfl := Option.some.inj h
      exact zg_iret dd_56_115 rfl
  rcases z_if h with ⟨q19, h⟩ | ⟨q19, h⟩
  · refine zg_lookIn (tgt := 128) 127 dd_56_1 (by decide) q19 (by decide) (by decide) ?_
    refine zg_iload_n dd_56_128 rfl (j := 1) rfl ?_
    refine zg_iload_n dd_56_129 rfl (j := 2) rfl ?_
    refine zg_icmp_ge (tgt := 137) dd_56_130 (by decide) (fun q20 => ?_) (fun q20 => ?_)
    · replace h := z_t h q20
      refine zg_iconst dd_56_137 kI_0 ?_
      obtain ⟨r21, e22, h⟩ := z_bd h
      refine zg_invS_i (av := [.inl (0 : Int32)]) (st := []) (n := 1) dd_56_138 ca_57 zw_658 zw_659 (mt_fc_Text_bit e22) rfl ⟨by decide +kernel, by decide⟩ (Nat.le_of_ble_eq_true rfl) ?_
      obtain rfl := Option.some.inj h
      exact zg_iret dd_56_141 rfl
    · replace h := z_f h q20
      refine zg_iconst dd_56_133 kI_1 ?_
      refine zg_goto (tgt := 138) dd_56_134 (by decide) ?_
      obtain ⟨r23, e24, h⟩ := z_bd h
      refine zg_invS_i (av := [.inl (1 : Int32)]) (st := []) (n := 1) dd_56_138 ca_57 zw_658 zw_659 (mt_fc_Text_bit e24) rfl ⟨by decide +kernel, by decide⟩ (Nat.le_of_ble_eq_true rfl) ?_
      obtain rfl := Option.some.inj h
      exact zg_iret dd_56_141 rfl
  rcases z_if h with ⟨q25, h⟩ | ⟨q25, h⟩
  · refine zg_lookIn (tgt := 142) 141 dd_56_1 (by decide) q25 (by decide) (by decide) ?_
    refine zg_iload_n dd_56_142 rfl (j := 1) rfl ?_
    refine zg_iload_n dd_56_143 rfl (j := 2) rfl ?_
    refine zg_icmp_ne (tgt := 151) dd_56_144 (by decide) (fun q26 => ?_) (fun q26 => ?_)
    · replace h := z_f h q26
      refine zg_iconst dd_56_151 kI_0 ?_
      obtain ⟨r27, e28, h⟩ := z_bd h
      refine zg_invS_i (av := [.inl (0 : Int32)]) (st := []) (n := 1) dd_56_152 ca_57 zw_658 zw_659 (mt_fc_Text_bit e28) rfl ⟨by decide +kernel, by decide⟩ (Nat.le_of_ble_eq_true rfl) ?_
      obtain rfl := Option.some.inj h
      exact zg_iret dd_56_155 rfl
    · replace h := z_t h q26
      refine zg_iconst dd_56_147 kI_1 ?_
      refine zg_goto (tgt := 152) dd_56_148 (by decide) ?_
      obtain ⟨r29, e30, h⟩ := z_bd h
      refine zg_invS_i (av := [.inl (1 : Int32)]) (st := []) (n := 1) dd_56_152 ca_57 zw_658 zw_659 (mt_fc_Text_bit e30) rfl ⟨by decide +kernel, by decide⟩ (Nat.le_of_ble_eq_true rfl) ?_
      obtain rfl := Option.some.inj h
      exact zg_iret dd_56_155 rfl
  rcases z_if h with ⟨q31, h⟩ | ⟨q31, h⟩
  · refine zg_lookIn (tgt := 156) 155 dd_56_1 (by decide) q31 (by decide) (by decide) ?_
    refine zg_iload_n dd_56_156 rfl (j := 1) rfl ?_
    refine zg_iload_n dd_56_157 rfl (j := 2) rfl ?_
    refine zg_icmp_le (tgt := 165) dd_56_158 (by decide) (fun q32 => ?_) (fun q32 => ?_)
    · replace h := z_t h q32
      refine zg_iconst dd_56_165 kI_0 ?_
      obtain ⟨r33, e34, h⟩ := z_bd h
      refine zg_invS_i (av := [.inl (0 : Int32)]) (st := []) (n := 1) dd_56_166 ca_57 zw_658 zw_659 (mt_fc_Text_bit e34) rfl ⟨by decide +kernel, by decide⟩ (Nat.le_of_ble_eq_true rfl) ?_
      obtain rfl := Option.some.inj h
      exact zg_iret dd_56_169 rfl
    · replace h := z_f h q32
      refine zg_iconst dd_56_161 kI_1 ?_
      refine zg_goto (tgt := 166) dd_56_162 (by decide) ?_
      obtain ⟨r35, e36, h⟩ := z_bd h
      refine zg_invS_i (av := [.inl (1 : Int32)]) (st := []) (n := 1) dd_56_166 ca_57 zw_658 zw_659 (mt_fc_Text_bit e36) rfl ⟨by decide +kernel, by decide⟩ (Nat.le_of_ble_eq_true rfl) ?_
      obtain rfl := Option.some.inj h
      exact zg_iret dd_56_169 rfl
  rcases z_if h with ⟨q37, h⟩ | ⟨q37, h⟩
  · refine zg_lookIn (tgt := 187) 186 dd_56_1 (by decide) q37 (by decide) (by decide) ?_
    refine zg_iload_n dd_56_187 rfl (j := 1) rfl ?_
    refine zg_if_ne (tgt := 195) dd_56_188 (by decide) (fun q38 => ?_) (fun q38 => ?_)
    · replace h := z_f h q38
      refine zg_iconst dd_56_195 kI_1 ?_
      refine zg_goto (tgt := 200) dd_56_196 (by decide) ?_
      obtain ⟨r39, e40, h⟩ := z_bd h
      refine zg_invS_i (av := [.inl (1 : Int32)]) (st := []) (n := 1) dd_56_200 ca_57 zw_658 zw_659 (mt_fc_Text_bit e40) rfl ⟨by decide +kernel, by decide⟩ (Nat.le_of_ble_eq_true rfl) ?_
      obtain rfl := Option.some.inj h
      exact zg_iret dd_56_203 rfl
    · replace h := z_t h q38
      refine zg_iload_n dd_56_191 rfl (j := 2) rfl ?_
      refine zg_if_eq (tgt := 199) dd_56_192 (by decide) (fun q41 => ?_) (fun q41 => ?_)
      · replace h := z_t h q41
        refine zg_iconst dd_56_199 kI_0 ?_
        obtain ⟨r42, e43, h⟩ := z_bd h
        refine zg_invS_i (av := [.inl (0 : Int32)]) (st := []) (n := 1) dd_56_200 ca_57 zw_658 zw_659 (mt_fc_Text_bit e43) rfl ⟨by decide +kernel, by decide⟩ (Nat.le_of_ble_eq_true rfl) ?_
        obtain rfl := Option.some.inj h
        exact zg_iret dd_56_203 rfl
      · replace h := z_f h q41
        refine zg_iconst dd_56_195 kI_1 ?_
        refine zg_goto (tgt := 200) dd_56_196 (by decide) ?_
        obtain ⟨r44, e45, h⟩ := z_bd h
        refine zg_invS_i (av := [.inl (1 : Int32)]) (st := []) (n := 1) dd_56_200 ca_57 zw_658 zw_659 (mt_fc_Text_bit e45) rfl ⟨by decide +kernel, by decide⟩ (Nat.le_of_ble_eq_true rfl) ?_
        obtain rfl := Option.some.inj h
        exact zg_iret dd_56_203 rfl
  refine zg_lookOut (tgt := 204) [(37 : Int32), (38 : Int32), (42 : Int32), (43 : Int32), (45 : Int32), (47 : Int32), (60 : Int32), (61 : Int32), (62 : Int32), (124 : Int32)] dd_56_1 (by decide) (by decide +kernel) (by simp only [List.mem_cons, List.not_mem_nil, or_false]; rintro _ (rfl | rfl | rfl | rfl | rfl | rfl | rfl | rfl | rfl | rfl) <;> assumption) (by decide) ?_
  refine zg_iconst dd_56_204 kI_0 ?_
  obtain rfl := Option.some.inj h
  exact zg_iret dd_56_205 rfl
/-! TurnedLand$Text.workOut[35, None, None, None, None] -/
def fc_Text_workOut_L35 : Nat → Int32 → Int32 → zI → Option (Int32 × zI)
  | 0, _, _, _ => none
  | nf + 1, v5, v6, I =>
    if (I 35 1) ≤ v6 then
      if v5 < (1 : Int32) then
        some ((0 : Int32), I)
      else
        z_guard (zb (v5 - (1 : Int32)) 60) <|
        some ((I 38 (v5 - (1 : Int32)).toNatClampNeg), I)
    else
      z_guard (zb v6 60) <|
      if (I 36 v6.toNatClampNeg) = 0 then
        if (60 : Int32) ≤ v5 then
          fc_Text_workOut_L35 nf v5 (v6 + (1 : Int32)) I
        else
          (fc_Text_valueAt I v6).bind fun r7 =>
          z_guard (zb v5 60) <|
          fc_Text_workOut_L35 nf (v5 + (1 : Int32)) (v6 + (1 : Int32)) (zup I 38 v5.toNatClampNeg r7)
      else
        if (I 36 v6.toNatClampNeg) = (1 : Int32) then
          if (60 : Int32) ≤ v5 then
            fc_Text_workOut_L35 nf v5 (v6 + (1 : Int32)) I
          else
            (fc_Text_valueAt I v6).bind fun r25 =>
            z_guard (zb v5 60) <|
            fc_Text_workOut_L35 nf (v5 + (1 : Int32)) (v6 + (1 : Int32)) (zup I 38 v5.toNatClampNeg r25)
        else
          if (I 36 v6.toNatClampNeg) = (33 : Int32) then
            if v5 < (1 : Int32) then
              fc_Text_workOut_L35 nf v5 (v6 + (1 : Int32)) I
            else
              z_guard (zb (v5 - (1 : Int32)) 60) <|
              if (I 38 (v5 - (1 : Int32)).toNatClampNeg) = 0 then
                (fc_Text_bit I (1 : Int32)).bind fun r22 =>
                fc_Text_workOut_L35 nf v5 (v6 + (1 : Int32)) (zup I 38 (v5 - (1 : Int32)).toNatClampNeg r22)
              else
                (fc_Text_bit I (0 : Int32)).bind fun r20 =>
                fc_Text_workOut_L35 nf v5 (v6 + (1 : Int32)) (zup I 38 (v5 - (1 : Int32)).toNatClampNeg r20)
          else
            if v5 < (2 : Int32) then
              fc_Text_workOut_L35 nf v5 (v6 + (1 : Int32)) I
            else
              z_guard (zb ((v5 + (-1 : Int32)) - (1 : Int32)) 60) <|
              z_guard (zb (v5 + (-1 : Int32)) 60) <|
              (fc_Text_combine I (I 36 v6.toNatClampNeg) (I 38 ((v5 + (-1 : Int32)) - (1 : Int32)).toNatClampNeg) (I 38 (v5 + (-1 : Int32)).toNatClampNeg)).bind fun r15 =>
              fc_Text_workOut_L35 nf (v5 + (-1 : Int32)) (v6 + (1 : Int32)) (zup I 38 ((v5 + (-1 : Int32)) - (1 : Int32)).toNatClampNeg r15)
def fc_Text_workOut (I : zI) (a1 : Int32) (a2 : Int32) (a3 : Int32) (a4 : Int32) : Option (Int32 × zI) :=
  fc_Text_workOut_L35
    100 (0 : Int32) (0 : Int32) (zup (zup (zup (zup I 39 (0 : Int32).toNatClampNeg a1) 39 (1 : Int32).toNatClampNeg a2) 39 (2 : Int32).toNatClampNeg a3) 39 (3 : Int32).toNatClampNeg a4)
set_option maxRecDepth 20000 in
theorem lt_fc_Text_workOut_L35 {res : (Int32 × zI)} : ∀ (nf : Nat) (v5 : Int32) (v6 : Int32) (I : zI), fc_Text_workOut_L35 nf v5 v6 I = some res → zG 3 ym_54 0 0 (some (.inl res.1)) (zCs, zCr, res.2) zCs.length 35 [(0, .inr (.inr (some 35))), (5, .inl v5), (6, .inl v6)] [] (zCs, zCr, I) 0 0 := by
  intro nf
  induction nf with
  | zero =>
    intro v5 v6 I h
    have h2 : none = some res := h
    cases h2
  | succ nf ih =>
    intro v5 v6 I h
    rw [fc_Text_workOut_L35] at h
    refine zg_iload dd_54_35 (j := 2) rfl ?_
    refine zg_aload_n dd_54_37 rfl (j := 0) rfl ?_
    refine zg_getI (x := (I 35 1)) dd_54_38 zl_Text_15 zCs_35 rfl rfl ?_
    refine zg_icmp_ge (tgt := 180) dd_54_41 (by decide) (fun q1 => ?_) (fun q1 => ?_)
    · replace h := z_t h q1
      refine zg_iload dd_54_180 (j := 1) rfl ?_
      refine zg_iconst dd_54_182 kI_1 ?_
      refine zg_icmp_lt (tgt := 198) dd_54_183 (by decide) (fun q2 => ?_) (fun q2 => ?_)
      · replace h := z_t h q2
        refine zg_iconst dd_54_198 kI_0 ?_
        obtain rfl := Option.some.inj h
        exact zg_iret dd_54_199 rfl
      · replace h := z_f h q2
        refine zg_aload_n dd_54_186 rfl (j := 0) rfl ?_
        refine zg_getR dd_54_187 zl_Text_26 zCs_35 rfl zCr_35_4 ?_
        refine zg_iload dd_54_190 (j := 1) rfl ?_
        refine zg_iconst dd_54_192 kI_1 ?_
        refine zg_isub dd_54_193 ?_
        obtain ⟨g3, h⟩ := z_gd h
        refine zg_iald (w := (I 38 (v5 - (1 : Int32)).toNatClampNeg)) dd_54_194 zCs_38 g3 rfl ?_
        refine zg_goto (tgt := 199) dd_54_195 (by decide) ?_
        obtain rfl := Option.some.inj h
        exact zg_iret dd_54_199 rfl
    · replace h := z_f h q1
      refine zg_aload_n dd_54_44 rfl (j := 0) rfl ?_
      refine zg_getR dd_54_45 zl_Text_19 zCs_35 rfl zCr_35_2 ?_
      refine zg_iload dd_54_48 (j := 2) rfl ?_
      obtain ⟨g4, h⟩ := z_gd h
      refine zg_iald (w := (I 36 v6.toNatClampNeg)) dd_54_50 zCs_36 g4 rfl ?_
      refine zg_istore dd_54_51 (Nat.le_of_ble_eq_true rfl) (lv' := [(7, .inl (I 36 v6.toNatClampNeg)), (0, .inr (.inr (some 35))), (5, .inl v5), (6, .inl v6)]) rfl ?_
      refine zg_iload dd_54_53 (j := 0) rfl ?_
      refine zg_if_eq (tgt := 64) dd_54_55 (by decide) (fun q5 => ?_) (fun q5 => ?_)
      · replace h := z_t h q5
        refine zg_iload dd_54_64 (j := 2) rfl ?_
        refine zg_bipush dd_54_66 kB_60 ?_
        refine zg_icmp_ge (tgt := 174) dd_54_68 (by decide) (fun q6 => ?_) (fun q6 => ?_)
        · replace h := z_t h q6
          refine zg_iinc dd_54_174 (j := 3) rfl (v := (v6 + (1 : Int32))) (by rw [kI_1]) (Nat.le_of_ble_eq_true rfl) (lv' := [(6, .inl (v6 + (1 : Int32))), (7, .inl (I 36 v6.toNatClampNeg)), (0, .inr (.inr (some 35))), (5, .inl v5)]) rfl ?_
          refine zg_goto (tgt := 35) dd_54_177 (by decide) ?_
          refine zg_sub [2, 3, 0] rfl ?_
          exact ih _ _ _ h
        · replace h := z_f h q6
          refine zg_aload_n dd_54_71 rfl (j := 1) rfl ?_
          refine zg_getR dd_54_72 zl_Text_26 zCs_35 rfl zCr_35_4 ?_
          refine zg_iload dd_54_75 (j := 2) rfl ?_
          refine zg_iinc dd_54_77 (j := 2) rfl (v := (v5 + (1 : Int32))) (by rw [kI_1]) (Nat.le_of_ble_eq_true rfl) (lv' := [(5, .inl (v5 + (1 : Int32))), (7, .inl (I 36 v6.toNatClampNeg)), (0, .inr (.inr (some 35))), (6, .inl v6)]) rfl ?_
          refine zg_aload_n dd_54_80 rfl (j := 2) rfl ?_
          refine zg_iload dd_54_81 (j := 3) rfl ?_
          obtain ⟨r7, e8, h⟩ := z_bd h
          refine zg_invV_i (av := [.inl v6]) (st := [.inl v5, .inr (.inr (some 38))]) (n := 1) dd_54_83 ca_55 zw_653 zw_655 zv_17 zCs_35 zcl_5 rfl (mt_fc_Text_valueAt e8) rfl ⟨by decide +kernel, by decide⟩ (Nat.le_of_ble_eq_true rfl) ?_
          obtain ⟨g9, h⟩ := z_gd h
          refine zg_iast dd_54_86 zCs_38 g9 ?_
          refine zg_goto (tgt := 174) dd_54_87 (by decide) ?_
          refine zg_iinc dd_54_174 (j := 3) rfl (v := (v6 + (1 : Int32))) (by rw [kI_1]) (Nat.le_of_ble_eq_true rfl) (lv' := [(6, .inl (v6 + (1 : Int32))), (5, .inl (v5 + (1 : Int32))), (7, .inl (I 36 v6.toNatClampNeg)), (0, .inr (.inr (some 35)))]) rfl ?_
          refine zg_goto (tgt := 35) dd_54_177 (by decide) ?_
          refine zg_sub [3, 1, 0] rfl ?_
          exact ih _ _ _ h
      · replace h := z_f h q5
        refine zg_iload dd_54_58 (j := 0) rfl ?_
        refine zg_iconst dd_54_60 kI_1 ?_
        refine zg_icmp_ne (tgt := 90) dd_54_61 (by decide) (fun q10 => ?_) (fun q10 => ?_)
        · replace h := z_f h q10
          refine zg_iload dd_54_90 (j := 0) rfl ?_
          refine zg_bipush dd_54_92 kB_33 ?_
          refine zg_icmp_ne (tgt := 135) dd_54_94 (by decide) (fun q11 => ?_) (fun q11 => ?_)
          · replace h := z_f h q11
            refine zg_iload dd_54_135 (j := 2) rfl ?_
            refine zg_iconst dd_54_137 kI_2 ?_
            refine zg_icmp_lt (tgt := 174) dd_54_138 (by decide) (fun q12 => ?_) (fun q12 => ?_)
            · replace h := z_t h q12
              refine zg_iinc dd_54_174 (j := 3) rfl (v := (v6 + (1 : Int32))) (by rw [kI_1]) (Nat.le_of_ble_eq_true rfl) (lv' := [(6, .inl (v6 + (1 : Int32))), (7, .inl (I 36 v6.toNatClampNeg)), (0, .inr (.inr (some 35))), (5, .inl v5)]) rfl ?_
              refine zg_goto (tgt := 35) dd_54_177 (by decide) ?_
              refine zg_sub [2, 3, 0] rfl ?_
              exact ih _ _ _ h
            · replace h := z_f h q12
              refine zg_iinc dd_54_141 (j := 2) rfl (v := (v5 + (-1 : Int32))) (by rw [kI_m1]) (Nat.le_of_ble_eq_true rfl) (lv' := [(5, .inl (v5 + (-1 : Int32))), (7, .inl (I 36 v6.toNatClampNeg)), (0, .inr (.inr (some 35))), (6, .inl v6)]) rfl ?_
              refine zg_aload_n dd_54_144 rfl (j := 2) rfl ?_
              refine zg_getR dd_54_145 zl_Text_26 zCs_35 rfl zCr_35_4 ?_
              refine zg_iload dd_54_148 (j := 0) rfl ?_
              refine zg_iconst dd_54_150 kI_1 ?_
              refine zg_isub dd_54_151 ?_
              refine zg_iload dd_54_152 (j := 1) rfl ?_
              refine zg_aload_n dd_54_154 rfl (j := 2) rfl ?_
              refine zg_getR dd_54_155 zl_Text_26 zCs_35 rfl zCr_35_4 ?_
              refine zg_iload dd_54_158 (j := 0) rfl ?_
              refine zg_iconst dd_54_160 kI_1 ?_
              refine zg_isub dd_54_161 ?_
              obtain ⟨g13, h⟩ := z_gd h
              refine zg_iald (w := (I 38 ((v5 + (-1 : Int32)) - (1 : Int32)).toNatClampNeg)) dd_54_162 zCs_38 g13 rfl ?_
              refine zg_aload_n dd_54_163 rfl (j := 2) rfl ?_
              refine zg_getR dd_54_164 zl_Text_26 zCs_35 rfl zCr_35_4 ?_
              refine zg_iload dd_54_167 (j := 0) rfl ?_
              obtain ⟨g14, h⟩ := z_gd h
              refine zg_iald (w := (I 38 (v5 + (-1 : Int32)).toNatClampNeg)) dd_54_169 zCs_38 g14 rfl ?_
              obtain ⟨r15, e16, h⟩ := z_bd h
              refine zg_invS_i (av := [.inl (I 36 v6.toNatClampNeg), .inl (I 38 ((v5 + (-1 : Int32)) - (1 : Int32)).toNatClampNeg), .inl (I 38 (v5 + (-1 : Int32)).toNatClampNeg)]) (st := [.inl ((v5 + (-1 : Int32)) - (1 : Int32)), .inr (.inr (some 38))]) (n := 3) dd_54_170 ca_56 zw_661 zw_662 (mt_fc_Text_combine e16) rfl ⟨by decide +kernel, by decide⟩ (Nat.le_of_ble_eq_true rfl) ?_
              refine zg_iast dd_54_173 zCs_38 g13 ?_
              refine zg_iinc dd_54_174 (j := 3) rfl (v := (v6 + (1 : Int32))) (by rw [kI_1]) (Nat.le_of_ble_eq_true rfl) (lv' := [(6, .inl (v6 + (1 : Int32))), (5, .inl (v5 + (-1 : Int32))), (7, .inl (I 36 v6.toNatClampNeg)), (0, .inr (.inr (some 35)))]) rfl ?_
              refine zg_goto (tgt := 35) dd_54_177 (by decide) ?_
              refine zg_sub [3, 1, 0] rfl ?_
              exact ih _ _ _ h
          · replace h := z_t h q11
            refine zg_iload dd_54_97 (j := 2) rfl ?_
            refine zg_iconst dd_54_99 kI_1 ?_
            refine zg_icmp_lt (tgt := 174) dd_54_100 (by decide) (fun q17 => ?_) (fun q17 => ?_)
            · replace h := z_t h q17
              refine zg_iinc dd_54_174 (j := 3) rfl (v := (v6 + (1 : Int32))) (by rw [kI_1]) (Nat.le_of_ble_eq_true rfl) (lv' := [(6, .inl (v6 + (1 : Int32))), (7, .inl (I 36 v6.toNatClampNeg)), (0, .inr (.inr (some 35))), (5, .inl v5)]) rfl ?_
              refine zg_goto (tgt := 35) dd_54_177 (by decide) ?_
              refine zg_sub [2, 3, 0] rfl ?_
              exact ih _ _ _ h
            · replace h := z_f h q17
              refine zg_aload_n dd_54_103 rfl (j := 1) rfl ?_
              refine zg_getR dd_54_104 zl_Text_26 zCs_35 rfl zCr_35_4 ?_
              refine zg_iload dd_54_107 (j := 2) rfl ?_
              refine zg_iconst dd_54_109 kI_1 ?_
              refine zg_isub dd_54_110 ?_
              refine zg_aload_n dd_54_111 rfl (j := 1) rfl ?_
              refine zg_getR dd_54_112 zl_Text_26 zCs_35 rfl zCr_35_4 ?_
              refine zg_iload dd_54_115 (j := 2) rfl ?_
              refine zg_iconst dd_54_117 kI_1 ?_
              refine zg_isub dd_54_118 ?_
              obtain ⟨g18, h⟩ := z_gd h
              refine zg_iald (w := (I 38 (v5 - (1 : Int32)).toNatClampNeg)) dd_54_119 zCs_38 g18 rfl ?_
              refine zg_if_ne (tgt := 127) dd_54_120 (by decide) (fun q19 => ?_) (fun q19 => ?_)
              · replace h := z_f h q19
                refine zg_iconst dd_54_127 kI_0 ?_
                obtain ⟨r20, e21, h⟩ := z_bd h
                refine zg_invS_i (av := [.inl (0 : Int32)]) (st := [.inl (v5 - (1 : Int32)), .inr (.inr (some 38))]) (n := 1) dd_54_128 ca_57 zw_658 zw_659 (mt_fc_Text_bit e21) rfl ⟨by decide +kernel, by decide⟩ (Nat.le_of_ble_eq_true rfl) ?_
                refine zg_iast dd_54_131 zCs_38 g18 ?_
                refine zg_goto (tgt := 174) dd_54_132 (by decide) ?_
                refine zg_iinc dd_54_174 (j := 3) rfl (v := (v6 + (1 : Int32))) (by rw [kI_1]) (Nat.le_of_ble_eq_true rfl) (lv' := [(6, .inl (v6 + (1 : Int32))), (7, .inl (I 36 v6.toNatClampNeg)), (0, .inr (.inr (some 35))), (5, .inl v5)]) rfl ?_
                refine zg_goto (tgt := 35) dd_54_177 (by decide) ?_
                refine zg_sub [2, 3, 0] rfl ?_
                exact ih _ _ _ h
              · replace h := z_t h q19
                refine zg_iconst dd_54_123 kI_1 ?_
                refine zg_goto (tgt := 128) dd_54_124 (by decide) ?_
                obtain ⟨r22, e23, h⟩ := z_bd h
                refine zg_invS_i (av := [.inl (1 : Int32)]) (st := [.inl (v5 - (1 : Int32)), .inr (.inr (some 38))]) (n := 1) dd_54_128 ca_57 zw_658 zw_659 (mt_fc_Text_bit e23) rfl ⟨by decide +kernel, by decide⟩ (Nat.le_of_ble_eq_true rfl) ?_
                refine zg_iast dd_54_131 zCs_38 g18 ?_
                refine zg_goto (tgt := 174) dd_54_132 (by decide) ?_
                refine zg_iinc dd_54_174 (j := 3) rfl (v := (v6 + (1 : Int32))) (by rw [kI_1]) (Nat.le_of_ble_eq_true rfl) (lv' := [(6, .inl (v6 + (1 : Int32))), (7, .inl (I 36 v6.toNatClampNeg)), (0, .inr (.inr (some 35))), (5, .inl v5)]) rfl ?_
                refine zg_goto (tgt := 35) dd_54_177 (by decide) ?_
                refine zg_sub [2, 3, 0] rfl ?_
                exact ih _ _ _ h
        · replace h := z_t h q10
          refine zg_iload dd_54_64 (j := 2) rfl ?_
          refine zg_bipush dd_54_66 kB_60 ?_
          refine zg_icmp_ge (tgt := 174) dd_54_68 (by decide) (fun q24 => ?_) (fun q24 => ?_)
          · replace h := z_t h q24
            refine zg_iinc dd_54_174 (j := 3) rfl (v := (v6 + (1 : Int32))) (by rw [kI_1]) (Nat.le_of_ble_eq_true rfl) (lv' := [(6, .inl (v6 + (1 : Int32))), (7, .inl (I 36 v6.toNatClampNeg)), (0, .inr (.inr (some 35))), (5, .inl v5)]) rfl ?_
            refine zg_goto (tgt := 35) dd_54_177 (by decide) ?_
            refine zg_sub [2, 3, 0] rfl ?_
            exact ih _ _ _ h
          · replace h := z_f h q24
            refine zg_aload_n dd_54_71 rfl (j := 1) rfl ?_
            refine zg_getR dd_54_72 zl_Text_26 zCs_35 rfl zCr_35_4 ?_
            refine zg_iload dd_54_75 (j := 2) rfl ?_
            refine zg_iinc dd_54_77 (j := 2) rfl (v := (v5 + (1 : Int32))) (by rw [kI_1]) (Nat.le_of_ble_eq_true rfl) (lv' := [(5, .inl (v5 + (1 : Int32))), (7, .inl (I 36 v6.toNatClampNeg)), (0, .inr (.inr (some 35))), (6, .inl v6)]) rfl ?_
            refine zg_aload_n dd_54_80 rfl (j := 2) rfl ?_
            refine zg_iload dd_54_81 (j := 3) rfl ?_
            obtain ⟨r25, e26, h⟩ := z_bd h
            refine zg_invV_i (av := [.inl v6]) (st := [.inl v5, .inr (.inr (some 38))]) (n := 1) dd_54_83 ca_55 zw_653 zw_655 zv_17 zCs_35 zcl_5 rfl (mt_fc_Text_valueAt e26) rfl ⟨by decide +kernel, by decide⟩ (Nat.le_of_ble_eq_true rfl) ?_
            obtain ⟨g27, h⟩ := z_gd h
            refine zg_iast dd_54_86 zCs_38 g27 ?_
            refine zg_goto (tgt := 174) dd_54_87 (by decide) ?_
            refine zg_iinc dd_54_174 (j := 3) rfl (v := (v6 + (1 : Int32))) (by rw [kI_1]) (Nat.le_of_ble_eq_true rfl) (lv' := [(6, .inl (v6 + (1 : Int32))), (5, .inl (v5 + (1 : Int32))), (7, .inl (I 36 v6.toNatClampNeg)), (0, .inr (.inr (some 35)))]) rfl ?_
            refine zg_goto (tgt := 35) dd_54_177 (by decide) ?_
            refine zg_sub [3, 1, 0] rfl ?_
            exact ih _ _ _ h
set_option maxRecDepth 20000 in
theorem mt_fc_Text_workOut {I : zI} {a1 : Int32} {a2 : Int32} {a3 : Int32} {a4 : Int32} {res : (Int32 × zI)} (h : fc_Text_workOut I a1 a2 a3 a4 = some res) : zM 3 ym_54 [.inr (.inr (some 35)), .inl a1, .inl a2, .inl a3, .inl a4] (zCs, zCr, I) (some (.inl res.1)) (zCs, zCr, res.2) 0 0 := by
  refine zM_of (by decide) (Nat.le_of_ble_eq_true rfl) (lv := [(0, .inr (.inr (some 35))), (1, .inl a1), (2, .inl a2), (3, .inl a3), (4, .inl a4)]) rfl ?_
  rw [fc_Text_workOut] at h
  refine zg_aload_n dd_54_0 rfl (j := 0) rfl ?_
  refine zg_getR dd_54_1 zl_Text_29 zCs_35 rfl zCr_35_5 ?_
  refine zg_iconst dd_54_4 kI_0 ?_
  refine zg_iload_n dd_54_5 rfl (j := 1) rfl ?_
  refine zg_iast dd_54_6 zCs_39 (by decide) ?_
  refine zg_aload_n dd_54_7 rfl (j := 0) rfl ?_
  refine zg_getR dd_54_8 zl_Text_29 zCs_35 rfl zCr_35_5 ?_
  refine zg_iconst dd_54_11 kI_1 ?_
  refine zg_iload_n dd_54_12 rfl (j := 2) rfl ?_
  refine zg_iast dd_54_13 zCs_39 (by decide) ?_
  refine zg_aload_n dd_54_14 rfl (j := 0) rfl ?_
  refine zg_getR dd_54_15 zl_Text_29 zCs_35 rfl zCr_35_5 ?_
  refine zg_iconst dd_54_18 kI_2 ?_
  refine zg_iload_n dd_54_19 rfl (j := 3) rfl ?_
  refine zg_iast dd_54_20 zCs_39 (by decide) ?_
  refine zg_aload_n dd_54_21 rfl (j := 0) rfl ?_
  refine zg_getR dd_54_22 zl_Text_29 zCs_35 rfl zCr_35_5 ?_
  refine zg_iconst dd_54_25 kI_3 ?_
  refine zg_iload dd_54_26 (j := 4) rfl ?_
  refine zg_iast dd_54_28 zCs_39 (by decide) ?_
  refine zg_iconst dd_54_29 kI_0 ?_
  refine zg_istore dd_54_30 (Nat.le_of_ble_eq_true rfl) (lv' := [(5, .inl (0 : Int32)), (0, .inr (.inr (some 35))), (1, .inl a1), (2, .inl a2), (3, .inl a3), (4, .inl a4)]) rfl ?_
  refine zg_iconst dd_54_32 kI_0 ?_
  refine zg_istore dd_54_33 (Nat.le_of_ble_eq_true rfl) (lv' := [(6, .inl (0 : Int32)), (5, .inl (0 : Int32)), (0, .inr (.inr (some 35))), (1, .inl a1), (2, .inl a2), (3, .inl a3), (4, .inl a4)]) rfl ?_
  refine zg_sub [2, 1, 0] rfl ?_
  refine lt_fc_Text_workOut_L35  _ _ _ _ h
/-! TurnedLand.held[None, None, None] -/
def fc_T_held (I : zI) (a0 : Int32) (a1 : Int32) (a2 : Int32) : Option Int32 :=
  some (zmax a1 (zmin a2 a0))
set_option maxRecDepth 20000 in
theorem mt_fc_T_held {I : zI} {a0 : Int32} {a1 : Int32} {a2 : Int32} {res : Int32} (h : fc_T_held I a0 a1 a2 = some res) : zM 1 ym_58 [.inl a0, .inl a1, .inl a2] (zCs, zCr, I) (some (.inl res)) (zCs, zCr, I) 0 0 := by
  refine zM_of (by decide) (Nat.le_of_ble_eq_true rfl) (lv := [(0, .inl a0), (1, .inl a1), (2, .inl a2)]) rfl ?_
  rw [fc_T_held] at h
  refine zg_iload_n dd_58_0 rfl (j := 1) rfl ?_
  refine zg_iload_n dd_58_1 rfl (j := 2) rfl ?_
  refine zg_iload_n dd_58_2 rfl (j := 0) rfl ?_
  refine zg_zmin (st := [.inl a1]) dd_58_3 zw_667 zmin_w (Nat.le_of_ble_eq_true rfl) (Nat.le_of_ble_eq_true rfl) ?_
  refine zg_zmax (st := []) dd_58_6 zw_670 zmax_w (Nat.le_of_ble_eq_true rfl) (Nat.le_of_ble_eq_true rfl) ?_
  obtain rfl := Option.some.inj h
  exact zg_iret dd_58_9 rfl
/-! TurnedLand$World.hours[1, None, None] -/
def fc_World_hours (I : zI) (a1 : Int32) (a2 : Int32) : Option (Int32 × zI) :=
  (fc_Ground_comesTo I a1 a2).bind fun r1 =>
  if r1 = (-1 : Int32) then
    some ((0 : Int32), I)
  else
    z_guard (zb (a1 / (2 : Int32)) 8) <|
    if (I 35 0) = 0 then
      some ((I 3 (a1 / (2 : Int32)).toNatClampNeg), I)
    else
      z_guard (zb (r1 / (2 : Int32)) 8) <|
      (fc_Text_workOut I (I 3 (a1 / (2 : Int32)).toNatClampNeg) (I 3 (r1 / (2 : Int32)).toNatClampNeg) (a1 % (2 : Int32)) ((a1 ^^^ r1) &&& (1 : Int32))).bind fun r7 =>
      (fc_T_held r7.2 r7.1 (1 : Int32) (999 : Int32)).bind fun r9 =>
      some (r9, r7.2)
set_option maxRecDepth 20000 in
theorem mt_fc_World_hours {I : zI} {a1 : Int32} {a2 : Int32} {res : (Int32 × zI)} (h : fc_World_hours I a1 a2 = some res) : zM 4 ym_53 [.inr (.inr (some 1)), .inl a1, .inl a2] (zCs, zCr, I) (some (.inl res.1)) (zCs, zCr, res.2) 0 0 := by
  refine zM_of (by decide) (Nat.le_of_ble_eq_true rfl) (lv := [(0, .inr (.inr (some 1))), (1, .inl a1), (2, .inl a2)]) rfl ?_
  rw [fc_World_hours] at h
  refine zg_aload_n dd_53_0 rfl (j := 0) rfl ?_
  refine zg_getR dd_53_1 zl_World_12 zCs_1 rfl zCr_1_0 ?_
  refine zg_iload_n dd_53_4 rfl (j := 1) rfl ?_
  refine zg_iload_n dd_53_5 rfl (j := 2) rfl ?_
  obtain ⟨r1, e2, h⟩ := z_bd h
  refine zg_invV_i (av := [.inl a1, .inl a2]) (st := []) (n := 2) dd_53_6 ca_52 zw_648 zw_640 zw_641 zCs_2 zcl_2 rfl (mt_fc_Ground_comesTo e2) rfl ⟨by decide +kernel, by decide⟩ (Nat.le_of_ble_eq_true rfl) ?_
  refine zg_istore_n dd_53_9 rfl (Nat.le_of_ble_eq_true rfl) (lv' := [(3, .inl r1), (0, .inr (.inr (some 1))), (1, .inl a1), (2, .inl a2)]) rfl ?_
  refine zg_iload_n dd_53_10 rfl (j := 0) rfl ?_
  refine zg_iconst dd_53_11 kI_m1 ?_
  refine zg_icmp_ne (tgt := 17) dd_53_12 (by decide) (fun q3 => ?_) (fun q3 => ?_)
  · replace h := z_f h q3
    refine zg_aload_n dd_53_17 rfl (j := 1) rfl ?_
    refine zg_getR dd_53_18 zl_World_12 zCs_1 rfl zCr_1_0 ?_
    refine zg_getR dd_53_21 zl_World_93 zCs_2 rfl zCr_2_1 ?_
    refine zg_iload_n dd_53_24 rfl (j := 2) rfl ?_
    refine zg_iconst dd_53_25 kI_2 ?_
    refine zg_idiv dd_53_26 (by decide) ?_
    obtain ⟨g4, h⟩ := z_gd h
    refine zg_iald (w := (I 3 (a1 / (2 : Int32)).toNatClampNeg)) dd_53_27 zCs_3 g4 rfl ?_
    refine zg_istore dd_53_28 (Nat.le_of_ble_eq_true rfl) (lv' := [(4, .inl (I 3 (a1 / (2 : Int32)).toNatClampNeg)), (3, .inl r1), (0, .inr (.inr (some 1))), (1, .inl a1), (2, .inl a2)]) rfl ?_
    refine zg_aload_n dd_53_30 rfl (j := 2) rfl ?_
    refine zg_getR dd_53_31 zl_World_42 zCs_1 rfl zCr_1_4 ?_
    refine zg_getI (x := (I 35 0)) dd_53_34 zl_World_96 zCs_35 rfl rfl ?_
    refine zg_if_ne (tgt := 43) dd_53_37 (by decide) (fun q5 => ?_) (fun q5 => ?_)
    · replace h := z_f h q5
      refine zg_iload_n dd_53_43 rfl (j := 3) rfl ?_
      refine zg_iload_n dd_53_44 rfl (j := 1) rfl ?_
      refine zg_ixor dd_53_45 ?_
      refine zg_iconst dd_53_46 kI_1 ?_
      refine zg_iand dd_53_47 ?_
      refine zg_istore dd_53_48 (Nat.le_of_ble_eq_true rfl) (lv' := [(5, .inl ((a1 ^^^ r1) &&& (1 : Int32))), (4, .inl (I 3 (a1 / (2 : Int32)).toNatClampNeg)), (3, .inl r1), (0, .inr (.inr (some 1))), (1, .inl a1), (2, .inl a2)]) rfl ?_
      refine zg_aload_n dd_53_50 rfl (j := 3) rfl ?_
      refine zg_getR dd_53_51 zl_World_42 zCs_1 rfl zCr_1_4 ?_
      refine zg_iload dd_53_54 (j := 1) rfl ?_
      refine zg_aload_n dd_53_56 rfl (j := 3) rfl ?_
      refine zg_getR dd_53_57 zl_World_12 zCs_1 rfl zCr_1_0 ?_
      refine zg_getR dd_53_60 zl_World_93 zCs_2 rfl zCr_2_1 ?_
      refine zg_iload_n dd_53_63 rfl (j := 2) rfl ?_
      refine zg_iconst dd_53_64 kI_2 ?_
      refine zg_idiv dd_53_65 (by decide) ?_
      obtain ⟨g6, h⟩ := z_gd h
      refine zg_iald (w := (I 3 (r1 / (2 : Int32)).toNatClampNeg)) dd_53_66 zCs_3 g6 rfl ?_
      refine zg_iload_n dd_53_67 rfl (j := 4) rfl ?_
      refine zg_iconst dd_53_68 kI_2 ?_
      refine zg_irem dd_53_69 (by decide) ?_
      refine zg_iload dd_53_70 (j := 0) rfl ?_
      obtain ⟨r7, e8, h⟩ := z_bd h
      refine zg_invV_i (av := [.inl (I 3 (a1 / (2 : Int32)).toNatClampNeg), .inl (I 3 (r1 / (2 : Int32)).toNatClampNeg), .inl (a1 % (2 : Int32)), .inl ((a1 ^^^ r1) &&& (1 : Int32))]) (st := []) (n := 4) dd_53_72 ca_54 zw_649 zw_650 zw_651 zCs_35 zcl_5 rfl (mt_fc_Text_workOut e8) rfl ⟨by decide +kernel, by decide⟩ (Nat.le_of_ble_eq_true rfl) ?_
      refine zg_istore dd_53_75 (Nat.le_of_ble_eq_true rfl) (lv' := [(6, .inl r7.1), (5, .inl ((a1 ^^^ r1) &&& (1 : Int32))), (4, .inl (I 3 (a1 / (2 : Int32)).toNatClampNeg)), (3, .inl r1), (0, .inr (.inr (some 1))), (1, .inl a1), (2, .inl a2)]) rfl ?_
      refine zg_iload dd_53_77 (j := 0) rfl ?_
      refine zg_iconst dd_53_79 kI_1 ?_
      refine zg_sipush dd_53_80 kS_999 ?_
      obtain ⟨r9, e10, h⟩ := z_bd h
      refine zg_invSN_i (av := [.inl r7.1, .inl (1 : Int32), .inl (999 : Int32)]) (st := []) (n := 3) dd_53_83 ca_58 (List.mem_of_getElem? (i := 13) rfl) zw_665 (mt_fc_T_held e10) rfl ⟨by decide +kernel, by decide⟩ (Nat.le_of_ble_eq_true rfl) ?_
      obtain rfl := Option.some.inj h
      exact zg_iret dd_53_86 rfl
    · replace h := z_t h q5
      refine zg_iload dd_53_40 (j := 0) rfl ?_
      obtain rfl := Option.some.inj h
      exact zg_iret dd_53_42 rfl
  · replace h := z_t h q3
    refine zg_iconst dd_53_15 kI_0 ?_
    obtain rfl := Option.some.inj h
    exact zg_iret dd_53_16 rfl
/-! TurnedLand$Ways.survey[104, 1] -/
def fc_Ways_survey_L25 (k67 : Int32 → zI → Option zI) : Nat → Int32 → Int32 → zI → Option zI
  | 0, _, _, _ => none
  | nf + 1, v2, v3, I =>
    if (4 : Int32) ≤ v3 then
      k67 v2 I
    else
      z_guard (zb v2 16) <|
      (fc_Ground_comesTo I v2 v3).bind fun r4 =>
      z_guard (zb v3 4) <|
      (fc_World_hours (zup I (108 + v2.toNatClampNeg) v3.toNatClampNeg r4) v2 v3).bind fun r7 =>
      fc_Ways_survey_L25 k67 nf v2 (v3 + (1 : Int32)) (zup r7.2 (125 + v2.toNatClampNeg) v3.toNatClampNeg r7.1)
def fc_Ways_survey_L15 : Nat → Int32 → zI → Option zI
  | 0, _, _ => none
  | nf + 1, v2, I =>
    if (I 104 4) ≤ v2 then
      some I
    else
      fc_Ways_survey_L25
        (fun (u9 : Int32) (J10 : zI) =>
          fc_Ways_survey_L15 nf (u9 + (1 : Int32)) J10
        )
        100 v2 (0 : Int32) I
def fc_Ways_survey (I : zI) : Option zI :=
  fc_Ways_survey_L15
    100 (0 : Int32) (zup I 104 4 ((2 : Int32) * (I 2 0)))
set_option maxRecDepth 20000 in
theorem lt_fc_Ways_survey_L25 {res : zI} {k67 : Int32 → zI → Option zI} (hk67 : ∀ (v2 : Int32) (J : zI), k67 v2 J = some res → zG 5 ym_51 0 0 none (zCs, zCr, res) zCs.length 67 [(0, .inr (.inr (some 104))), (1, .inr (.inr (some 1))), (2, .inl v2)] [] (zCs, zCr, J) 0 0) : ∀ (nf : Nat) (v2 : Int32) (v3 : Int32) (I : zI), fc_Ways_survey_L25 k67 nf v2 v3 I = some res → zG 5 ym_51 0 0 none (zCs, zCr, res) zCs.length 25 [(0, .inr (.inr (some 104))), (1, .inr (.inr (some 1))), (2, .inl v2), (3, .inl v3)] [] (zCs, zCr, I) 0 0 := by
  intro nf
  induction nf with
  | zero =>
    intro v2 v3 I h
    have h2 : none = some res := h
    cases h2
  | succ nf ih =>
    intro v2 v3 I h
    rw [fc_Ways_survey_L25] at h
    refine zg_iload_n dd_51_25 rfl (j := 3) rfl ?_
    refine zg_iconst dd_51_26 kI_4 ?_
    refine zg_icmp_ge (tgt := 67) dd_51_27 (by decide) (fun q2 => ?_) (fun q2 => ?_)
    · replace h := z_t h q2
      refine zg_sub [0, 1, 2] rfl ?_
      exact hk67 _ _ h
    · replace h := z_f h q2
      refine zg_aload_n dd_51_30 rfl (j := 0) rfl ?_
      refine zg_getR dd_51_31 zl_Ways_20 zCs_104 rfl zCr_104_2 ?_
      refine zg_iload_n dd_51_34 rfl (j := 2) rfl ?_
      obtain ⟨g3, h⟩ := z_gd h
      refine zg_aald1 dd_51_35 zCs_107 g3 (zrR_C_107 g3) ?_
      refine zg_iload_n dd_51_36 rfl (j := 3) rfl ?_
      refine zg_aload_n dd_51_37 rfl (j := 1) rfl ?_
      refine zg_getR dd_51_38 zl_Ways_30 zCs_1 rfl zCr_1_0 ?_
      refine zg_iload_n dd_51_41 rfl (j := 2) rfl ?_
      refine zg_iload_n dd_51_42 rfl (j := 3) rfl ?_
      obtain ⟨r4, e5, h⟩ := z_bd h
      refine zg_invV_i (av := [.inl v2, .inl v3]) (st := [.inl v3, .inr (.inr (some (108 + v2.toNatClampNeg)))]) (n := 2) dd_51_43 ca_52 zw_639 zw_640 zw_641 zCs_2 zcl_2 rfl (mt_fc_Ground_comesTo e5) rfl ⟨by decide +kernel, by decide⟩ (Nat.le_of_ble_eq_true rfl) ?_
      obtain ⟨g6, h⟩ := z_gd h
      refine zg_iast dd_51_46 (zrS_C_107 g3) g6 ?_
      refine zg_aload_n dd_51_47 rfl (j := 0) rfl ?_
      refine zg_getR dd_51_48 zl_Ways_23 zCs_104 rfl zCr_104_3 ?_
      refine zg_iload_n dd_51_51 rfl (j := 2) rfl ?_
      refine zg_aald1 dd_51_52 zCs_124 g3 (zrR_C_124 g3) ?_
      refine zg_iload_n dd_51_53 rfl (j := 3) rfl ?_
      refine zg_aload_n dd_51_54 rfl (j := 1) rfl ?_
      refine zg_iload_n dd_51_55 rfl (j := 2) rfl ?_
      refine zg_iload_n dd_51_56 rfl (j := 3) rfl ?_
      obtain ⟨r7, e8, h⟩ := z_bd h
      refine zg_invV_i (av := [.inl v2, .inl v3]) (st := [.inl v3, .inr (.inr (some (125 + v2.toNatClampNeg)))]) (n := 2) dd_51_57 ca_53 zw_644 zw_645 zw_646 zCs_1 zcl_10 rfl (mt_fc_World_hours e8) rfl ⟨by decide +kernel, by decide⟩ (Nat.le_of_ble_eq_true rfl) ?_
      refine zg_iast dd_51_60 (zrS_C_124 g3) g6 ?_
      refine zg_iinc dd_51_61 (j := 3) rfl (v := (v3 + (1 : Int32))) (by rw [kI_1]) (Nat.le_of_ble_eq_true rfl) (lv' := [(3, .inl (v3 + (1 : Int32))), (0, .inr (.inr (some 104))), (1, .inr (.inr (some 1))), (2, .inl v2)]) rfl ?_
      refine zg_goto (tgt := 25) dd_51_64 (by decide) ?_
      refine zg_sub [1, 2, 3, 0] rfl ?_
      exact ih _ _ _ h
set_option maxRecDepth 20000 in
theorem lt_fc_Ways_survey_L15 {res : zI} : ∀ (nf : Nat) (v2 : Int32) (I : zI), fc_Ways_survey_L15 nf v2 I = some res → zG 5 ym_51 0 0 none (zCs, zCr, res) zCs.length 15 [(0, .inr (.inr (some 104))), (1, .inr (.inr (some 1))), (2, .inl v2)] [] (zCs, zCr, I) 0 0 := by
  intro nf
  induction nf with
  | zero =>
    intro v2 I h
    have h2 : none = some res := h
    cases h2
  | succ nf ih =>
    intro v2 I h
    rw [fc_Ways_survey_L15] at h
    refine zg_iload_n dd_51_15 rfl (j := 2) rfl ?_
    refine zg_aload_n dd_51_16 rfl (j := 0) rfl ?_
    refine zg_getI (x := (I 104 4)) dd_51_17 zl_Ways_26 zCs_104 rfl rfl ?_
    refine zg_icmp_ge (tgt := 73) dd_51_20 (by decide) (fun q1 => ?_) (fun q1 => ?_)
    · replace h := z_t h q1
      obtain rfl := Option.some.inj h
      exact zg_vret dd_51_73 rfl
    · replace h := z_f h q1
      refine zg_iconst dd_51_23 kI_0 ?_
      refine zg_istore_n dd_51_24 rfl (Nat.le_of_ble_eq_true rfl) (lv' := [(3, .inl (0 : Int32)), (0, .inr (.inr (some 104))), (1, .inr (.inr (some 1))), (2, .inl v2)]) rfl ?_
      refine zg_sub [1, 2, 3, 0] rfl ?_
      refine lt_fc_Ways_survey_L25 ?_ _ _ _ _ h
      · intro u9 J10 h
        refine zg_iinc dd_51_67 (j := 2) rfl (v := (u9 + (1 : Int32))) (by rw [kI_1]) (Nat.le_of_ble_eq_true rfl) (lv' := [(2, .inl (u9 + (1 : Int32))), (0, .inr (.inr (some 104))), (1, .inr (.inr (some 1)))]) rfl ?_
        refine zg_goto (tgt := 15) dd_51_70 (by decide) ?_
        refine zg_sub [1, 2, 0] rfl ?_
        exact ih _ _ h
set_option maxRecDepth 20000 in
theorem mt_fc_Ways_survey {I : zI} {res : zI} (h : fc_Ways_survey I = some res) : zM 5 ym_51 [.inr (.inr (some 104)), .inr (.inr (some 1))] (zCs, zCr, I) none (zCs, zCr, res) 0 0 := by
  refine zM_of (by decide) (Nat.le_of_ble_eq_true rfl) (lv := [(0, .inr (.inr (some 104))), (1, .inr (.inr (some 1)))]) rfl ?_
  rw [fc_Ways_survey] at h
  refine zg_aload_n dd_51_0 rfl (j := 0) rfl ?_
  refine zg_iconst dd_51_1 kI_2 ?_
  refine zg_aload_n dd_51_2 rfl (j := 1) rfl ?_
  refine zg_getR dd_51_3 zl_Ways_30 zCs_1 rfl zCr_1_0 ?_
  refine zg_getI (x := (I 2 0)) dd_51_6 zl_Ways_36 zCs_2 rfl rfl ?_
  refine zg_imul dd_51_9 ?_
  refine zg_putI dd_51_10 zp_Ways_26 zCs_104 rfl (zSt_int _) ?_
  refine zg_iconst dd_51_13 kI_0 ?_
  refine zg_istore_n dd_51_14 rfl (Nat.le_of_ble_eq_true rfl) (lv' := [(2, .inl (0 : Int32)), (0, .inr (.inr (some 104))), (1, .inr (.inr (some 1)))]) rfl ?_
  refine zg_sub [1, 2, 0] rfl ?_
  refine lt_fc_Ways_survey_L15  _ _ _ h
/-! TurnedLand$Ways.nearest[104, None] -/
def fc_Ways_nearest_L4 (I : zI) : Nat → Int32 → Int32 → Int32 → Option Int32
  | 0, _, _, _ => none
  | nf + 1, v1, v2, v3 =>
    if (I 104 4) ≤ v3 then
      some v2
    else
      if ((v1 >>> (v3 &&& 31)) &&& (1 : Int32)) = (1 : Int32) then
        z_guard (zb v3 16) <|
        if (I 105 v3.toNatClampNeg) < 0 then
          fc_Ways_nearest_L4 I nf v1 v2 (v3 + (1 : Int32))
        else
          if v2 = (-1 : Int32) then
            fc_Ways_nearest_L4 I nf v1 v3 (v3 + (1 : Int32))
          else
            z_guard (zb v2 16) <|
            if (I 105 v2.toNatClampNeg) ≤ (I 105 v3.toNatClampNeg) then
              fc_Ways_nearest_L4 I nf v1 v2 (v3 + (1 : Int32))
            else
              fc_Ways_nearest_L4 I nf v1 v3 (v3 + (1 : Int32))
      else
        fc_Ways_nearest_L4 I nf v1 v2 (v3 + (1 : Int32))
def fc_Ways_nearest (I : zI) (a1 : Int32) : Option Int32 :=
  fc_Ways_nearest_L4 I
    100 a1 (-1 : Int32) (0 : Int32)
set_option maxRecDepth 20000 in
theorem lt_fc_Ways_nearest_L4 {res : Int32} {I : zI} : ∀ (nf : Nat) (v1 : Int32) (v2 : Int32) (v3 : Int32), fc_Ways_nearest_L4 I nf v1 v2 v3 = some res → zG 1 ym_60 0 0 (some (.inl res)) (zCs, zCr, I) zCs.length 4 [(0, .inr (.inr (some 104))), (1, .inl v1), (2, .inl v2), (3, .inl v3)] [] (zCs, zCr, I) 0 0 := by
  intro nf
  induction nf with
  | zero =>
    intro v1 v2 v3 h
    have h2 : none = some res := h
    cases h2
  | succ nf ih =>
    intro v1 v2 v3 h
    rw [fc_Ways_nearest_L4] at h
    refine zg_iload_n dd_60_4 rfl (j := 3) rfl ?_
    refine zg_aload_n dd_60_5 rfl (j := 0) rfl ?_
    refine zg_getI (x := (I 104 4)) dd_60_6 zl_Ways_26 zCs_104 rfl rfl ?_
    refine zg_icmp_ge (tgt := 70) dd_60_9 (by decide) (fun q1 => ?_) (fun q1 => ?_)
    · replace h := z_t h q1
      refine zg_iload_n dd_60_70 rfl (j := 2) rfl ?_
      obtain rfl := Option.some.inj h
      exact zg_iret dd_60_71 rfl
    · replace h := z_f h q1
      refine zg_iload_n dd_60_12 rfl (j := 1) rfl ?_
      refine zg_iload_n dd_60_13 rfl (j := 3) rfl ?_
      refine zg_ishr dd_60_14 ?_
      refine zg_iconst dd_60_15 kI_1 ?_
      refine zg_iand dd_60_16 ?_
      refine zg_iconst dd_60_17 kI_1 ?_
      refine zg_icmp_ne (tgt := 34) dd_60_18 (by decide) (fun q2 => ?_) (fun q2 => ?_)
      · replace h := z_f h q2
        refine zg_iconst dd_60_34 kI_0 ?_
        refine zg_istore dd_60_35 (Nat.le_of_ble_eq_true rfl) (lv' := [(4, .inl (0 : Int32)), (0, .inr (.inr (some 104))), (1, .inl v1), (2, .inl v2), (3, .inl v3)]) rfl ?_
        refine zg_iload dd_60_37 (j := 0) rfl ?_
        refine zg_if_eq (tgt := 64) dd_60_39 (by decide) (fun _ => ?_) (fun q3 => absurd q3 (by decide))
        refine zg_iinc dd_60_64 (j := 4) rfl (v := (v3 + (1 : Int32))) (by rw [kI_1]) (Nat.le_of_ble_eq_true rfl) (lv' := [(3, .inl (v3 + (1 : Int32))), (4, .inl (0 : Int32)), (0, .inr (.inr (some 104))), (1, .inl v1), (2, .inl v2)]) rfl ?_
        refine zg_goto (tgt := 4) dd_60_67 (by decide) ?_
        refine zg_sub [2, 3, 4, 0] rfl ?_
        exact ih _ _ _ h
      · replace h := z_t h q2
        refine zg_aload_n dd_60_21 rfl (j := 0) rfl ?_
        refine zg_getR dd_60_22 zl_Ways_9 zCs_104 rfl zCr_104_0 ?_
        refine zg_iload_n dd_60_25 rfl (j := 3) rfl ?_
        obtain ⟨g4, h⟩ := z_gd h
        refine zg_iald (w := (I 105 v3.toNatClampNeg)) dd_60_26 zCs_105 g4 rfl ?_
        refine zg_if_lt (tgt := 34) dd_60_27 (by decide) (fun q5 => ?_) (fun q5 => ?_)
        · replace h := z_t h q5
          refine zg_iconst dd_60_34 kI_0 ?_
          refine zg_istore dd_60_35 (Nat.le_of_ble_eq_true rfl) (lv' := [(4, .inl (0 : Int32)), (0, .inr (.inr (some 104))), (1, .inl v1), (2, .inl v2), (3, .inl v3)]) rfl ?_
          refine zg_iload dd_60_37 (j := 0) rfl ?_
          refine zg_if_eq (tgt := 64) dd_60_39 (by decide) (fun _ => ?_) (fun q6 => absurd q6 (by decide))
          refine zg_iinc dd_60_64 (j := 4) rfl (v := (v3 + (1 : Int32))) (by rw [kI_1]) (Nat.le_of_ble_eq_true rfl) (lv' := [(3, .inl (v3 + (1 : Int32))), (4, .inl (0 : Int32)), (0, .inr (.inr (some 104))), (1, .inl v1), (2, .inl v2)]) rfl ?_
          refine zg_goto (tgt := 4) dd_60_67 (by decide) ?_
          refine zg_sub [2, 3, 4, 0] rfl ?_
          exact ih _ _ _ h
        · replace h := z_f h q5
          refine zg_iconst dd_60_30 kI_1 ?_
          refine zg_goto (tgt := 35) dd_60_31 (by decide) ?_
          refine zg_istore dd_60_35 (Nat.le_of_ble_eq_true rfl) (lv' := [(4, .inl (1 : Int32)), (0, .inr (.inr (some 104))), (1, .inl v1), (2, .inl v2), (3, .inl v3)]) rfl ?_
          refine zg_iload dd_60_37 (j := 0) rfl ?_
          refine zg_if_eq (tgt := 64) dd_60_39 (by decide) (fun q7 => absurd q7 (by decide)) (fun _ => ?_)
          refine zg_iload_n dd_60_42 rfl (j := 3) rfl ?_
          refine zg_iconst dd_60_43 kI_m1 ?_
          refine zg_icmp_eq (tgt := 62) dd_60_44 (by decide) (fun q8 => ?_) (fun q8 => ?_)
          · replace h := z_t h q8
            refine zg_iload_n dd_60_62 rfl (j := 4) rfl ?_
            refine zg_istore_n dd_60_63 rfl (Nat.le_of_ble_eq_true rfl) (lv' := [(2, .inl v3), (4, .inl (1 : Int32)), (0, .inr (.inr (some 104))), (1, .inl v1), (3, .inl v3)]) rfl ?_
            refine zg_iinc dd_60_64 (j := 4) rfl (v := (v3 + (1 : Int32))) (by rw [kI_1]) (Nat.le_of_ble_eq_true rfl) (lv' := [(3, .inl (v3 + (1 : Int32))), (2, .inl v3), (4, .inl (1 : Int32)), (0, .inr (.inr (some 104))), (1, .inl v1)]) rfl ?_
            refine zg_goto (tgt := 4) dd_60_67 (by decide) ?_
            refine zg_sub [3, 4, 1, 0] rfl ?_
            exact ih _ _ _ h
          · replace h := z_f h q8
            refine zg_aload_n dd_60_47 rfl (j := 1) rfl ?_
            refine zg_getR dd_60_48 zl_Ways_9 zCs_104 rfl zCr_104_0 ?_
            refine zg_iload_n dd_60_51 rfl (j := 4) rfl ?_
            refine zg_iald (w := (I 105 v3.toNatClampNeg)) dd_60_52 zCs_105 g4 rfl ?_
            refine zg_aload_n dd_60_53 rfl (j := 1) rfl ?_
            refine zg_getR dd_60_54 zl_Ways_9 zCs_104 rfl zCr_104_0 ?_
            refine zg_iload_n dd_60_57 rfl (j := 3) rfl ?_
            obtain ⟨g9, h⟩ := z_gd h
            refine zg_iald (w := (I 105 v2.toNatClampNeg)) dd_60_58 zCs_105 g9 rfl ?_
            refine zg_icmp_ge (tgt := 64) dd_60_59 (by decide) (fun q10 => ?_) (fun q10 => ?_)
            · replace h := z_t h q10
              refine zg_iinc dd_60_64 (j := 4) rfl (v := (v3 + (1 : Int32))) (by rw [kI_1]) (Nat.le_of_ble_eq_true rfl) (lv' := [(3, .inl (v3 + (1 : Int32))), (4, .inl (1 : Int32)), (0, .inr (.inr (some 104))), (1, .inl v1), (2, .inl v2)]) rfl ?_
              refine zg_goto (tgt := 4) dd_60_67 (by decide) ?_
              refine zg_sub [2, 3, 4, 0] rfl ?_
              exact ih _ _ _ h
            · replace h := z_f h q10
              refine zg_iload_n dd_60_62 rfl (j := 4) rfl ?_
              refine zg_istore_n dd_60_63 rfl (Nat.le_of_ble_eq_true rfl) (lv' := [(2, .inl v3), (4, .inl (1 : Int32)), (0, .inr (.inr (some 104))), (1, .inl v1), (3, .inl v3)]) rfl ?_
              refine zg_iinc dd_60_64 (j := 4) rfl (v := (v3 + (1 : Int32))) (by rw [kI_1]) (Nat.le_of_ble_eq_true rfl) (lv' := [(3, .inl (v3 + (1 : Int32))), (2, .inl v3), (4, .inl (1 : Int32)), (0, .inr (.inr (some 104))), (1, .inl v1)]) rfl ?_
              refine zg_goto (tgt := 4) dd_60_67 (by decide) ?_
              refine zg_sub [3, 4, 1, 0] rfl ?_
              exact ih _ _ _ h
set_option maxRecDepth 20000 in
theorem mt_fc_Ways_nearest {I : zI} {a1 : Int32} {res : Int32} (h : fc_Ways_nearest I a1 = some res) : zM 1 ym_60 [.inr (.inr (some 104)), .inl a1] (zCs, zCr, I) (some (.inl res)) (zCs, zCr, I) 0 0 := by
  refine zM_of (by decide) (Nat.le_of_ble_eq_true rfl) (lv := [(0, .inr (.inr (some 104))), (1, .inl a1)]) rfl ?_
  rw [fc_Ways_nearest] at h
  refine zg_iconst dd_60_0 kI_m1 ?_
  refine zg_istore_n dd_60_1 rfl (Nat.le_of_ble_eq_true rfl) (lv' := [(2, .inl (-1 : Int32)), (0, .inr (.inr (some 104))), (1, .inl a1)]) rfl ?_
  refine zg_iconst dd_60_2 kI_0 ?_
  refine zg_istore_n dd_60_3 rfl (Nat.le_of_ble_eq_true rfl) (lv' := [(3, .inl (0 : Int32)), (2, .inl (-1 : Int32)), (0, .inr (.inr (some 104))), (1, .inl a1)]) rfl ?_
  refine zg_sub [2, 3, 1, 0] rfl ?_
  refine lt_fc_Ways_nearest_L4  _ _ _ _ h
/-! TurnedLand$Ways.comeTo[104, None, None, None] -/
def fc_Ways_comeTo (I : zI) (a1 : Int32) (a2 : Int32) (a3 : Int32) : Option zI :=
  z_guard (zb a1 16) <|
  if (I 105 a1.toNatClampNeg) < 0 then
    some (zup (zup I 105 a1.toNatClampNeg a2) 106 a1.toNatClampNeg a3)
  else
    if (I 105 a1.toNatClampNeg) ≤ a2 then
      if a2 = (I 105 a1.toNatClampNeg) then
        some (zup I 106 a1.toNatClampNeg ((I 106 a1.toNatClampNeg) ||| a3))
      else
        some I
    else
      some (zup (zup I 105 a1.toNatClampNeg a2) 106 a1.toNatClampNeg a3)
set_option maxRecDepth 20000 in
theorem mt_fc_Ways_comeTo {I : zI} {a1 : Int32} {a2 : Int32} {a3 : Int32} {res : zI} (h : fc_Ways_comeTo I a1 a2 a3 = some res) : zM 1 ym_61 [.inr (.inr (some 104)), .inl a1, .inl a2, .inl a3] (zCs, zCr, I) none (zCs, zCr, res) 0 0 := by
  refine zM_of (by decide) (Nat.le_of_ble_eq_true rfl) (lv := [(0, .inr (.inr (some 104))), (1, .inl a1), (2, .inl a2), (3, .inl a3)]) rfl ?_
  rw [fc_Ways_comeTo] at h
  refine zg_aload_n dd_61_0 rfl (j := 0) rfl ?_
  refine zg_getR dd_61_1 zl_Ways_9 zCs_104 rfl zCr_104_0 ?_
  refine zg_iload_n dd_61_4 rfl (j := 1) rfl ?_
  obtain ⟨g1, h⟩ := z_gd h
  refine zg_iald (w := (I 105 a1.toNatClampNeg)) dd_61_5 zCs_105 g1 rfl ?_
  refine zg_if_lt (tgt := 19) dd_61_6 (by decide) (fun q2 => ?_) (fun q2 => ?_)
  · replace h := z_t h q2
    refine zg_aload_n dd_61_19 rfl (j := 0) rfl ?_
    refine zg_getR dd_61_20 zl_Ways_9 zCs_104 rfl zCr_104_0 ?_
    refine zg_iload_n dd_61_23 rfl (j := 1) rfl ?_
    refine zg_iload_n dd_61_24 rfl (j := 2) rfl ?_
    refine zg_iast dd_61_25 zCs_105 g1 ?_
    refine zg_aload_n dd_61_26 rfl (j := 0) rfl ?_
    refine zg_getR dd_61_27 zl_Ways_15 zCs_104 rfl zCr_104_1 ?_
    refine zg_iload_n dd_61_30 rfl (j := 1) rfl ?_
    refine zg_iload_n dd_61_31 rfl (j := 3) rfl ?_
    refine zg_iast dd_61_32 zCs_106 g1 ?_
    refine zg_goto (tgt := 56) dd_61_33 (by decide) ?_
    obtain rfl := Option.some.inj h
    exact zg_vret dd_61_56 rfl
  · replace h := z_f h q2
    refine zg_iload_n dd_61_9 rfl (j := 2) rfl ?_
    refine zg_aload_n dd_61_10 rfl (j := 0) rfl ?_
    refine zg_getR dd_61_11 zl_Ways_9 zCs_104 rfl zCr_104_0 ?_
    refine zg_iload_n dd_61_14 rfl (j := 1) rfl ?_
    refine zg_iald (w := (I 105 a1.toNatClampNeg)) dd_61_15 zCs_105 g1 rfl ?_
    refine zg_icmp_ge (tgt := 36) dd_61_16 (by decide) (fun q3 => ?_) (fun q3 => ?_)
    · replace h := z_t h q3
      refine zg_iload_n dd_61_36 rfl (j := 2) rfl ?_
      refine zg_aload_n dd_61_37 rfl (j := 0) rfl ?_
      refine zg_getR dd_61_38 zl_Ways_9 zCs_104 rfl zCr_104_0 ?_
      refine zg_iload_n dd_61_41 rfl (j := 1) rfl ?_
      refine zg_iald (w := (I 105 a1.toNatClampNeg)) dd_61_42 zCs_105 g1 rfl ?_
      refine zg_icmp_ne (tgt := 56) dd_61_43 (by decide) (fun q4 => ?_) (fun q4 => ?_)
      · replace h := z_f h q4
        obtain rfl := Option.some.inj h
        exact zg_vret dd_61_56 rfl
      · replace h := z_t h q4
        refine zg_aload_n dd_61_46 rfl (j := 0) rfl ?_
        refine zg_getR dd_61_47 zl_Ways_15 zCs_104 rfl zCr_104_1 ?_
        refine zg_iload_n dd_61_50 rfl (j := 1) rfl ?_
        refine zg_dup2 dd_61_51 rfl rfl ?_
        refine zg_iald (w := (I 106 a1.toNatClampNeg)) dd_61_52 zCs_106 g1 rfl ?_
        refine zg_iload_n dd_61_53 rfl (j := 3) rfl ?_
        refine zg_ior dd_61_54 ?_
        refine zg_iast dd_61_55 zCs_106 g1 ?_
        obtain rfl := Option.some.inj h
        exact zg_vret dd_61_56 rfl
    · replace h := z_f h q3
      refine zg_aload_n dd_61_19 rfl (j := 0) rfl ?_
      refine zg_getR dd_61_20 zl_Ways_9 zCs_104 rfl zCr_104_0 ?_
      refine zg_iload_n dd_61_23 rfl (j := 1) rfl ?_
      refine zg_iload_n dd_61_24 rfl (j := 2) rfl ?_
      refine zg_iast dd_61_25 zCs_105 g1 ?_
      refine zg_aload_n dd_61_26 rfl (j := 0) rfl ?_
      refine zg_getR dd_61_27 zl_Ways_15 zCs_104 rfl zCr_104_1 ?_
      refine zg_iload_n dd_61_30 rfl (j := 1) rfl ?_
      refine zg_iload_n dd_61_31 rfl (j := 3) rfl ?_
      refine zg_iast dd_61_32 zCs_106 g1 ?_
      refine zg_goto (tgt := 56) dd_61_33 (by decide) ?_
      obtain rfl := Option.some.inj h
      exact zg_vret dd_61_56 rfl
/-! TurnedLand$Ways.spread[104, None] -/
def fc_Ways_spread_L70 (k152 : Int32 → Int32 → Int32 → zI → Option zI) : Nat → Int32 → Int32 → Int32 → Int32 → Int32 → zI → Option zI
  | 0, _, _, _, _, _, _ => none
  | nf + 1, v1, v2, v3, v4, v5, I =>
    if (4 : Int32) ≤ v5 then
      k152 v1 v2 v3 I
    else
      if v4 = v1 then
        z_guard (zb v4 16) <|
        z_guard (zb v5 4) <|
        if (I (108 + v4.toNatClampNeg) v5.toNatClampNeg) = (-1 : Int32) then
          fc_Ways_spread_L70 k152 nf v1 v2 v3 v4 (v5 + (1 : Int32)) I
        else
          (fc_Ways_comeTo I (I (108 + v4.toNatClampNeg) v5.toNatClampNeg) ((I 105 v4.toNatClampNeg) + (I (125 + v4.toNatClampNeg) v5.toNatClampNeg)) ((1 : Int32) <<< (v5 &&& 31))).bind fun r16 =>
          fc_Ways_spread_L70 k152 nf v1 v2 v3 v4 (v5 + (1 : Int32)) r16
      else
        z_guard (zb v4 16) <|
        z_guard (zb v5 4) <|
        if (I (108 + v4.toNatClampNeg) v5.toNatClampNeg) = (-1 : Int32) then
          fc_Ways_spread_L70 k152 nf v1 v2 v3 v4 (v5 + (1 : Int32)) I
        else
          (fc_Ways_comeTo I (I (108 + v4.toNatClampNeg) v5.toNatClampNeg) ((I 105 v4.toNatClampNeg) + (I (125 + v4.toNatClampNeg) v5.toNatClampNeg)) (I 106 v4.toNatClampNeg)).bind fun r11 =>
          fc_Ways_spread_L70 k152 nf v1 v2 v3 v4 (v5 + (1 : Int32)) r11
def fc_Ways_spread_L34 : Nat → Int32 → Int32 → Int32 → zI → Option zI
  | 0, _, _, _, _ => none
  | nf + 1, v1, v2, v3, I =>
    if (I 104 4) ≤ v3 then
      some I
    else
      (fc_Ways_nearest I v2).bind fun r3 =>
      if r3 = (-1 : Int32) then
        some I
      else
        fc_Ways_spread_L70
          (fun (u18 : Int32) (u19 : Int32) (u20 : Int32) (J21 : zI) =>
            fc_Ways_spread_L34 nf u18 u19 (u20 + (1 : Int32)) J21
          )
          100 v1 (v2 &&& (((1 : Int32) <<< (r3 &&& 31)) ^^^ (-1 : Int32))) v3 r3 (0 : Int32) I
def fc_Ways_spread (I : zI) (a1 : Int32) : Option zI :=
  z_guard (zb a1 16) <|
  fc_Ways_spread_L34
    100 a1 (((1 : Int32) <<< (((zfill (zfill I 105 16 (-1 : Int32)) 106 16 (0 : Int32)) 104 4) &&& 31)) - (1 : Int32)) (0 : Int32) (zup (zfill (zfill I 105 16 (-1 : Int32)) 106 16 (0 : Int32)) 105 a1.toNatClampNeg (0 : Int32))
set_option maxRecDepth 20000 in
theorem lt_fc_Ways_spread_L70 {res : zI} {k152 : Int32 → Int32 → Int32 → zI → Option zI} (hk152 : ∀ (v1 : Int32) (v2 : Int32) (v3 : Int32) (J : zI), k152 v1 v2 v3 J = some res → zG 2 ym_59 0 0 none (zCs, zCr, res) zCs.length 152 [(0, .inr (.inr (some 104))), (1, .inl v1), (2, .inl v2), (3, .inl v3)] [] (zCs, zCr, J) 0 0) : ∀ (nf : Nat) (v1 : Int32) (v2 : Int32) (v3 : Int32) (v4 : Int32) (v5 : Int32) (I : zI), fc_Ways_spread_L70 k152 nf v1 v2 v3 v4 v5 I = some res → zG 2 ym_59 0 0 none (zCs, zCr, res) zCs.length 70 [(0, .inr (.inr (some 104))), (1, .inl v1), (2, .inl v2), (3, .inl v3), (4, .inl v4), (5, .inl v5)] [] (zCs, zCr, I) 0 0 := by
  intro nf
  induction nf with
  | zero =>
    intro v1 v2 v3 v4 v5 I h
    have h2 : none = some res := h
    cases h2
  | succ nf ih =>
    intro v1 v2 v3 v4 v5 I h
    rw [fc_Ways_spread_L70] at h
    refine zg_iload dd_59_70 (j := 5) rfl ?_
    refine zg_iconst dd_59_72 kI_4 ?_
    refine zg_icmp_ge (tgt := 152) dd_59_73 (by decide) (fun q6 => ?_) (fun q6 => ?_)
    · replace h := z_t h q6
      refine zg_sub [0, 1, 2, 3] rfl ?_
      exact hk152 _ _ _ _ h
    · replace h := z_f h q6
      refine zg_iload dd_59_76 (j := 4) rfl ?_
      refine zg_iload_n dd_59_78 rfl (j := 1) rfl ?_
      refine zg_icmp_ne (tgt := 89) dd_59_79 (by decide) (fun q7 => ?_) (fun q7 => ?_)
      · replace h := z_f h q7
        refine zg_aload_n dd_59_89 rfl (j := 0) rfl ?_
        refine zg_getR dd_59_90 zl_Ways_15 zCs_104 rfl zCr_104_1 ?_
        refine zg_iload dd_59_93 (j := 4) rfl ?_
        obtain ⟨g8, h⟩ := z_gd h
        refine zg_iald (w := (I 106 v4.toNatClampNeg)) dd_59_95 zCs_106 g8 rfl ?_
        refine zg_istore dd_59_96 (Nat.le_of_ble_eq_true rfl) (lv' := [(6, .inl (I 106 v4.toNatClampNeg)), (0, .inr (.inr (some 104))), (1, .inl v1), (2, .inl v2), (3, .inl v3), (4, .inl v4), (5, .inl v5)]) rfl ?_
        refine zg_aload_n dd_59_98 rfl (j := 1) rfl ?_
        refine zg_getR dd_59_99 zl_Ways_20 zCs_104 rfl zCr_104_2 ?_
        refine zg_iload dd_59_102 (j := 5) rfl ?_
        refine zg_aald1 dd_59_104 zCs_107 g8 (zrR_C_107 g8) ?_
        refine zg_iload dd_59_105 (j := 6) rfl ?_
        obtain ⟨g9, h⟩ := z_gd h
        refine zg_iald (w := (I (108 + v4.toNatClampNeg) v5.toNatClampNeg)) dd_59_107 (zrS_C_107 g8) g9 rfl ?_
        refine zg_iconst dd_59_108 kI_m1 ?_
        refine zg_icmp_eq (tgt := 146) dd_59_109 (by decide) (fun q10 => ?_) (fun q10 => ?_)
        · replace h := z_t h q10
          refine zg_iinc dd_59_146 (j := 6) rfl (v := (v5 + (1 : Int32))) (by rw [kI_1]) (Nat.le_of_ble_eq_true rfl) (lv' := [(5, .inl (v5 + (1 : Int32))), (6, .inl (I 106 v4.toNatClampNeg)), (0, .inr (.inr (some 104))), (1, .inl v1), (2, .inl v2), (3, .inl v3), (4, .inl v4)]) rfl ?_
          refine zg_goto (tgt := 70) dd_59_149 (by decide) ?_
          refine zg_sub [2, 3, 4, 5, 6, 0] rfl ?_
          exact ih _ _ _ _ _ _ h
        · replace h := z_f h q10
          refine zg_aload_n dd_59_112 rfl (j := 1) rfl ?_
          refine zg_aload_n dd_59_113 rfl (j := 1) rfl ?_
          refine zg_getR dd_59_114 zl_Ways_20 zCs_104 rfl zCr_104_2 ?_
          refine zg_iload dd_59_117 (j := 5) rfl ?_
          refine zg_aald1 dd_59_119 zCs_107 g8 (zrR_C_107 g8) ?_
          refine zg_iload dd_59_120 (j := 6) rfl ?_
          refine zg_iald (w := (I (108 + v4.toNatClampNeg) v5.toNatClampNeg)) dd_59_122 (zrS_C_107 g8) g9 rfl ?_
          refine zg_aload_n dd_59_123 rfl (j := 1) rfl ?_
          refine zg_getR dd_59_124 zl_Ways_9 zCs_104 rfl zCr_104_0 ?_
          refine zg_iload dd_59_127 (j := 5) rfl ?_
          refine zg_iald (w := (I 105 v4.toNatClampNeg)) dd_59_129 zCs_105 g8 rfl ?_
          refine zg_aload_n dd_59_130 rfl (j := 1) rfl ?_
          refine zg_getR dd_59_131 zl_Ways_23 zCs_104 rfl zCr_104_3 ?_
          refine zg_iload dd_59_134 (j := 5) rfl ?_
          refine zg_aald1 dd_59_136 zCs_124 g8 (zrR_C_124 g8) ?_
          refine zg_iload dd_59_137 (j := 6) rfl ?_
          refine zg_iald (w := (I (125 + v4.toNatClampNeg) v5.toNatClampNeg)) dd_59_139 (zrS_C_124 g8) g9 rfl ?_
          refine zg_iadd dd_59_140 ?_
          refine zg_iload dd_59_141 (j := 0) rfl ?_
          obtain ⟨r11, e12, h⟩ := z_bd h
          refine zg_invV_v (av := [.inl (I (108 + v4.toNatClampNeg) v5.toNatClampNeg), .inl ((I 105 v4.toNatClampNeg) + (I (125 + v4.toNatClampNeg) v5.toNatClampNeg)), .inl (I 106 v4.toNatClampNeg)]) (st := []) (n := 3) dd_59_143 ca_61 zw_682 zw_684 zv_19 zCs_104 zcl_9 rfl (mt_fc_Ways_comeTo e12) rfl ⟨by decide +kernel, by decide⟩ (Nat.le_of_ble_eq_true rfl) ?_
          refine zg_iinc dd_59_146 (j := 6) rfl (v := (v5 + (1 : Int32))) (by rw [kI_1]) (Nat.le_of_ble_eq_true rfl) (lv' := [(5, .inl (v5 + (1 : Int32))), (6, .inl (I 106 v4.toNatClampNeg)), (0, .inr (.inr (some 104))), (1, .inl v1), (2, .inl v2), (3, .inl v3), (4, .inl v4)]) rfl ?_
          refine zg_goto (tgt := 70) dd_59_149 (by decide) ?_
          refine zg_sub [2, 3, 4, 5, 6, 0] rfl ?_
          exact ih _ _ _ _ _ _ h
      · replace h := z_t h q7
        refine zg_iconst dd_59_82 kI_1 ?_
        refine zg_iload dd_59_83 (j := 5) rfl ?_
        refine zg_ishl dd_59_85 ?_
        refine zg_goto (tgt := 96) dd_59_86 (by decide) ?_
        refine zg_istore dd_59_96 (Nat.le_of_ble_eq_true rfl) (lv' := [(6, .inl ((1 : Int32) <<< (v5 &&& 31))), (0, .inr (.inr (some 104))), (1, .inl v1), (2, .inl v2), (3, .inl v3), (4, .inl v4), (5, .inl v5)]) rfl ?_
        refine zg_aload_n dd_59_98 rfl (j := 1) rfl ?_
        refine zg_getR dd_59_99 zl_Ways_20 zCs_104 rfl zCr_104_2 ?_
        refine zg_iload dd_59_102 (j := 5) rfl ?_
        obtain ⟨g13, h⟩ := z_gd h
        refine zg_aald1 dd_59_104 zCs_107 g13 (zrR_C_107 g13) ?_
        refine zg_iload dd_59_105 (j := 6) rfl ?_
        obtain ⟨g14, h⟩ := z_gd h
        refine zg_iald (w := (I (108 + v4.toNatClampNeg) v5.toNatClampNeg)) dd_59_107 (zrS_C_107 g13) g14 rfl ?_
        refine zg_iconst dd_59_108 kI_m1 ?_
        refine zg_icmp_eq (tgt := 146) dd_59_109 (by decide) (fun q15 => ?_) (fun q15 => ?_)
        · replace h := z_t h q15
          refine zg_iinc dd_59_146 (j := 6) rfl (v := (v5 + (1 : Int32))) (by rw [kI_1]) (Nat.le_of_ble_eq_true rfl) (lv' := [(5, .inl (v5 + (1 : Int32))), (6, .inl ((1 : Int32) <<< (v5 &&& 31))), (0, .inr (.inr (some 104))), (1, .inl v1), (2, .inl v2), (3, .inl v3), (4, .inl v4)]) rfl ?_
          refine zg_goto (tgt := 70) dd_59_149 (by decide) ?_
          refine zg_sub [2, 3, 4, 5, 6, 0] rfl ?_
          exact ih _ _ _ _ _ _ h
        · replace h := z_f h q15
          refine zg_aload_n dd_59_112 rfl (j := 1) rfl ?_
          refine zg_aload_n dd_59_113 rfl (j := 1) rfl ?_
          refine zg_getR dd_59_114 zl_Ways_20 zCs_104 rfl zCr_104_2 ?_
          refine zg_iload dd_59_117 (j := 5) rfl ?_
          refine zg_aald1 dd_59_119 zCs_107 g13 (zrR_C_107 g13) ?_
          refine zg_iload dd_59_120 (j := 6) rfl ?_
          refine zg_iald (w := (I (108 + v4.toNatClampNeg) v5.toNatClampNeg)) dd_59_122 (zrS_C_107 g13) g14 rfl ?_
          refine zg_aload_n dd_59_123 rfl (j := 1) rfl ?_
          refine zg_getR dd_59_124 zl_Ways_9 zCs_104 rfl zCr_104_0 ?_
          refine zg_iload dd_59_127 (j := 5) rfl ?_
          refine zg_iald (w := (I 105 v4.toNatClampNeg)) dd_59_129 zCs_105 g13 rfl ?_
          refine zg_aload_n dd_59_130 rfl (j := 1) rfl ?_
          refine zg_getR dd_59_131 zl_Ways_23 zCs_104 rfl zCr_104_3 ?_
          refine zg_iload dd_59_134 (j := 5) rfl ?_
          refine zg_aald1 dd_59_136 zCs_124 g13 (zrR_C_124 g13) ?_
          refine zg_iload dd_59_137 (j := 6) rfl ?_
          refine zg_iald (w := (I (125 + v4.toNatClampNeg) v5.toNatClampNeg)) dd_59_139 (zrS_C_124 g13) g14 rfl ?_
          refine zg_iadd dd_59_140 ?_
          refine zg_iload dd_59_141 (j := 0) rfl ?_
          obtain ⟨r16, e17, h⟩ := z_bd h
          refine zg_invV_v (av := [.inl (I (108 + v4.toNatClampNeg) v5.toNatClampNeg), .inl ((I 105 v4.toNatClampNeg) + (I (125 + v4.toNatClampNeg) v5.toNatClampNeg)), .inl ((1 : Int32) <<< (v5 &&& 31))]) (st := []) (n := 3) dd_59_143 ca_61 zw_682 zw_684 zv_19 zCs_104 zcl_9 rfl (mt_fc_Ways_comeTo e17) rfl ⟨by decide +kernel, by decide⟩ (Nat.le_of_ble_eq_true rfl) ?_
          refine zg_iinc dd_59_146 (j := 6) rfl (v := (v5 + (1 : Int32))) (by rw [kI_1]) (Nat.le_of_ble_eq_true rfl) (lv' := [(5, .inl (v5 + (1 : Int32))), (6, .inl ((1 : Int32) <<< (v5 &&& 31))), (0, .inr (.inr (some 104))), (1, .inl v1), (2, .inl v2), (3, .inl v3), (4, .inl v4)]) rfl ?_
          refine zg_goto (tgt := 70) dd_59_149 (by decide) ?_
          refine zg_sub [2, 3, 4, 5, 6, 0] rfl ?_
          exact ih _ _ _ _ _ _ h
set_option maxRecDepth 20000 in
theorem lt_fc_Ways_spread_L34 {res : zI} : ∀ (nf : Nat) (v1 : Int32) (v2 : Int32) (v3 : Int32) (I : zI), fc_Ways_spread_L34 nf v1 v2 v3 I = some res → zG 2 ym_59 0 0 none (zCs, zCr, res) zCs.length 34 [(0, .inr (.inr (some 104))), (1, .inl v1), (2, .inl v2), (3, .inl v3)] [] (zCs, zCr, I) 0 0 := by
  intro nf
  induction nf with
  | zero =>
    intro v1 v2 v3 I h
    have h2 : none = some res := h
    cases h2
  | succ nf ih =>
    intro v1 v2 v3 I h
    rw [fc_Ways_spread_L34] at h
    refine zg_iload_n dd_59_34 rfl (j := 3) rfl ?_
    refine zg_aload_n dd_59_35 rfl (j := 0) rfl ?_
    refine zg_getI (x := (I 104 4)) dd_59_36 zl_Ways_26 zCs_104 rfl rfl ?_
    refine zg_icmp_ge (tgt := 158) dd_59_39 (by decide) (fun q2 => ?_) (fun q2 => ?_)
    · replace h := z_t h q2
      obtain rfl := Option.some.inj h
      exact zg_vret dd_59_158 rfl
    · replace h := z_f h q2
      refine zg_aload_n dd_59_42 rfl (j := 0) rfl ?_
      refine zg_iload_n dd_59_43 rfl (j := 2) rfl ?_
      obtain ⟨r3, e4, h⟩ := z_bd h
      refine zg_invV_i (av := [.inl v2]) (st := []) (n := 1) dd_59_44 ca_60 zw_678 zw_680 zv_18 zCs_104 zcl_9 rfl (mt_fc_Ways_nearest e4) rfl ⟨by decide +kernel, by decide⟩ (Nat.le_of_ble_eq_true rfl) ?_
      refine zg_istore dd_59_47 (Nat.le_of_ble_eq_true rfl) (lv' := [(4, .inl r3), (0, .inr (.inr (some 104))), (1, .inl v1), (2, .inl v2), (3, .inl v3)]) rfl ?_
      refine zg_iload dd_59_49 (j := 0) rfl ?_
      refine zg_iconst dd_59_51 kI_m1 ?_
      refine zg_icmp_ne (tgt := 58) dd_59_52 (by decide) (fun q5 => ?_) (fun q5 => ?_)
      · replace h := z_f h q5
        refine zg_iload_n dd_59_58 rfl (j := 3) rfl ?_
        refine zg_iconst dd_59_59 kI_1 ?_
        refine zg_iload dd_59_60 (j := 0) rfl ?_
        refine zg_ishl dd_59_62 ?_
        refine zg_iconst dd_59_63 kI_m1 ?_
        refine zg_ixor dd_59_64 ?_
        refine zg_iand dd_59_65 ?_
        refine zg_istore_n dd_59_66 rfl (Nat.le_of_ble_eq_true rfl) (lv' := [(2, .inl (v2 &&& (((1 : Int32) <<< (r3 &&& 31)) ^^^ (-1 : Int32)))), (4, .inl r3), (0, .inr (.inr (some 104))), (1, .inl v1), (3, .inl v3)]) rfl ?_
        refine zg_iconst dd_59_67 kI_0 ?_
        refine zg_istore dd_59_68 (Nat.le_of_ble_eq_true rfl) (lv' := [(5, .inl (0 : Int32)), (2, .inl (v2 &&& (((1 : Int32) <<< (r3 &&& 31)) ^^^ (-1 : Int32)))), (4, .inl r3), (0, .inr (.inr (some 104))), (1, .inl v1), (3, .inl v3)]) rfl ?_
        refine zg_sub [3, 4, 1, 5, 2, 0] rfl ?_
        refine lt_fc_Ways_spread_L70 ?_ _ _ _ _ _ _ _ h
        · intro u18 u19 u20 J21 h
          refine zg_iinc dd_59_152 (j := 3) rfl (v := (u20 + (1 : Int32))) (by rw [kI_1]) (Nat.le_of_ble_eq_true rfl) (lv' := [(3, .inl (u20 + (1 : Int32))), (0, .inr (.inr (some 104))), (1, .inl u18), (2, .inl u19)]) rfl ?_
          refine zg_goto (tgt := 34) dd_59_155 (by decide) ?_
          refine zg_sub [1, 2, 3, 0] rfl ?_
          exact ih _ _ _ _ h
      · replace h := z_t h q5
        refine zg_goto (tgt := 158) dd_59_55 (by decide) ?_
        obtain rfl := Option.some.inj h
        exact zg_vret dd_59_158 rfl
set_option maxRecDepth 20000 in
theorem mt_fc_Ways_spread {I : zI} {a1 : Int32} {res : zI} (h : fc_Ways_spread I a1 = some res) : zM 2 ym_59 [.inr (.inr (some 104)), .inl a1] (zCs, zCr, I) none (zCs, zCr, res) 0 0 := by
  refine zM_of (by decide) (Nat.le_of_ble_eq_true rfl) (lv := [(0, .inr (.inr (some 104))), (1, .inl a1)]) rfl ?_
  rw [fc_Ways_spread] at h
  refine zg_aload_n dd_59_0 rfl (j := 0) rfl ?_
  refine zg_getR dd_59_1 zl_Ways_9 zCs_104 rfl zCr_104_0 ?_
  refine zg_iconst dd_59_4 kI_m1 ?_
  refine zg_invS_v (av := [.inr (.inr (some 105)), .inl (-1 : Int32)]) (st := []) (n := 2) dd_59_5 ca_28 zw_677 zw_43 (mt_fill zCs_105 (Nat.le_of_ble_eq_true rfl)) rfl ⟨by decide +kernel, by decide⟩ (Nat.le_of_ble_eq_true rfl) ?_
  refine zg_aload_n dd_59_8 rfl (j := 0) rfl ?_
  refine zg_getR dd_59_9 zl_Ways_15 zCs_104 rfl zCr_104_1 ?_
  refine zg_iconst dd_59_12 kI_0 ?_
  refine zg_invS_v (av := [.inr (.inr (some 106)), .inl (0 : Int32)]) (st := []) (n := 2) dd_59_13 ca_28 zw_677 zw_43 (mt_fill zCs_106 (Nat.le_of_ble_eq_true rfl)) rfl ⟨by decide +kernel, by decide⟩ (Nat.le_of_ble_eq_true rfl) ?_
  refine zg_aload_n dd_59_16 rfl (j := 0) rfl ?_
  refine zg_getR dd_59_17 zl_Ways_9 zCs_104 rfl zCr_104_0 ?_
  refine zg_iload_n dd_59_20 rfl (j := 1) rfl ?_
  refine zg_iconst dd_59_21 kI_0 ?_
  obtain ⟨g1, h⟩ := z_gd h
  refine zg_iast dd_59_22 zCs_105 g1 ?_
  refine zg_iconst dd_59_23 kI_1 ?_
  refine zg_aload_n dd_59_24 rfl (j := 0) rfl ?_
  refine zg_getI (x := ((zfill (zfill I 105 16 (-1 : Int32)) 106 16 (0 : Int32)) 104 4)) dd_59_25 zl_Ways_26 zCs_104 rfl rfl ?_
  refine zg_ishl dd_59_28 ?_
  refine zg_iconst dd_59_29 kI_1 ?_
  refine zg_isub dd_59_30 ?_
  refine zg_istore_n dd_59_31 rfl (Nat.le_of_ble_eq_true rfl) (lv' := [(2, .inl (((1 : Int32) <<< (((zfill (zfill I 105 16 (-1 : Int32)) 106 16 (0 : Int32)) 104 4) &&& 31)) - (1 : Int32))), (0, .inr (.inr (some 104))), (1, .inl a1)]) rfl ?_
  refine zg_iconst dd_59_32 kI_0 ?_
  refine zg_istore_n dd_59_33 rfl (Nat.le_of_ble_eq_true rfl) (lv' := [(3, .inl (0 : Int32)), (2, .inl (((1 : Int32) <<< (((zfill (zfill I 105 16 (-1 : Int32)) 106 16 (0 : Int32)) 104 4) &&& 31)) - (1 : Int32))), (0, .inr (.inr (some 104))), (1, .inl a1)]) rfl ?_
  refine zg_sub [2, 3, 1, 0] rfl ?_
  refine lt_fc_Ways_spread_L34  _ _ _ _ _ h
/-! TurnedLand.soonest(0, None, None) -/
def fc_T_soonest (I : zI) (a1 : Int32) (a2 : Int32) : Option (Int32 × zI) :=
  (fc_Ground_hasPlace I a1).bind fun r1 =>
  if r1 = 0 then
    (fc_T_refuse I (1 : Int32)).bind fun r4 =>
    some (r4.1, r4.2)
  else
    (fc_Ground_hasPlace I a2).bind fun r6 =>
    if r6 = 0 then
      (fc_T_refuse I (1 : Int32)).bind fun r17 =>
      some (r17.1, r17.2)
    else
      (fc_Ways_survey I).bind fun r9 =>
      (fc_Ways_spread r9 a1).bind fun r11 =>
      z_guard (zb a2 16) <|
      if 0 ≤ (r11 105 a2.toNatClampNeg) then
        some ((r11 105 a2.toNatClampNeg), r11)
      else
        (fc_T_refuse r11 (2 : Int32)).bind fun r15 =>
        some (r15.1, r15.2)
set_option maxRecDepth 20000 in
theorem mt_fc_T_soonest {I : zI} {a1 : Int32} {a2 : Int32} {res : (Int32 × zI)} (h : fc_T_soonest I a1 a2 = some res) : zM 6 ym_49 [.inr (.inr (some 0)), .inl a1, .inl a2] (zCs, zCr, I) (some (.inl res.1)) (zCs, zCr, res.2) 0 0 := by
  refine zM_of (by decide) (Nat.le_of_ble_eq_true rfl) (lv := [(0, .inr (.inr (some 0))), (1, .inl a1), (2, .inl a2)]) rfl ?_
  rw [fc_T_soonest] at h
  refine zg_aload_n dd_49_0 rfl (j := 0) rfl ?_
  refine zg_getR dd_49_1 zl_T_12 zCs_0 rfl zCr_0_0 ?_
  refine zg_getR dd_49_4 zl_T_76 zCs_1 rfl zCr_1_0 ?_
  refine zg_iload_n dd_49_7 rfl (j := 1) rfl ?_
  obtain ⟨r1, e2, h⟩ := z_bd h
  refine zg_invV_i (av := [.inl a1]) (st := []) (n := 1) dd_49_8 ca_50 zw_631 zw_632 zw_633 zCs_2 zcl_2 rfl (mt_fc_Ground_hasPlace e2) rfl ⟨by decide +kernel, by decide⟩ (Nat.le_of_ble_eq_true rfl) ?_
  refine zg_if_eq (tgt := 28) dd_49_11 (by decide) (fun q3 => ?_) (fun q3 => ?_)
  · replace h := z_t h q3
    refine zg_aload_n dd_49_28 rfl (j := 0) rfl ?_
    refine zg_iconst dd_49_29 kI_1 ?_
    obtain ⟨r4, e5, h⟩ := z_bd h
    refine zg_invV_i (av := [.inl (1 : Int32)]) (st := []) (n := 1) dd_49_30 ca_2 zw_430 zw_432 zv_0 zCs_0 zcl_11 rfl (mt_fc_T_refuse e5) rfl ⟨by decide +kernel, by decide⟩ (Nat.le_of_ble_eq_true rfl) ?_
    obtain rfl := Option.some.inj h
    exact zg_iret dd_49_33 rfl
  · replace h := z_f h q3
    refine zg_aload_n dd_49_14 rfl (j := 0) rfl ?_
    refine zg_getR dd_49_15 zl_T_12 zCs_0 rfl zCr_0_0 ?_
    refine zg_getR dd_49_18 zl_T_76 zCs_1 rfl zCr_1_0 ?_
    refine zg_iload_n dd_49_21 rfl (j := 2) rfl ?_
    obtain ⟨r6, e7, h⟩ := z_bd h
    refine zg_invV_i (av := [.inl a2]) (st := []) (n := 1) dd_49_22 ca_50 zw_631 zw_632 zw_633 zCs_2 zcl_2 rfl (mt_fc_Ground_hasPlace e7) rfl ⟨by decide +kernel, by decide⟩ (Nat.le_of_ble_eq_true rfl) ?_
    refine zg_if_ne (tgt := 34) dd_49_25 (by decide) (fun q8 => ?_) (fun q8 => ?_)
    · replace h := z_f h q8
      refine zg_aload_n dd_49_34 rfl (j := 0) rfl ?_
      refine zg_getR dd_49_35 zl_T_48 zCs_0 rfl zCr_0_8 ?_
      refine zg_aload_n dd_49_38 rfl (j := 0) rfl ?_
      refine zg_getR dd_49_39 zl_T_12 zCs_0 rfl zCr_0_0 ?_
      obtain ⟨r9, e10, h⟩ := z_bd h
      refine zg_invV_v (av := [.inr (.inr (some 1))]) (st := []) (n := 1) dd_49_42 ca_51 zw_635 zw_636 zw_637 zCs_104 zcl_9 rfl (mt_fc_Ways_survey e10) rfl ⟨by decide +kernel, by decide⟩ (Nat.le_of_ble_eq_true rfl) ?_
      refine zg_aload_n dd_49_45 rfl (j := 0) rfl ?_
      refine zg_getR dd_49_46 zl_T_48 zCs_0 rfl zCr_0_8 ?_
      refine zg_iload_n dd_49_49 rfl (j := 1) rfl ?_
      obtain ⟨r11, e12, h⟩ := z_bd h
      refine zg_invV_v (av := [.inl a1]) (st := []) (n := 1) dd_49_50 ca_59 zw_673 zw_674 zw_675 zCs_104 zcl_9 rfl (mt_fc_Ways_spread e12) rfl ⟨by decide +kernel, by decide⟩ (Nat.le_of_ble_eq_true rfl) ?_
      refine zg_aload_n dd_49_53 rfl (j := 0) rfl ?_
      refine zg_getR dd_49_54 zl_T_48 zCs_0 rfl zCr_0_8 ?_
      refine zg_getR dd_49_57 zl_T_193 zCs_104 rfl zCr_104_0 ?_
      refine zg_iload_n dd_49_60 rfl (j := 2) rfl ?_
      obtain ⟨g13, h⟩ := z_gd h
      refine zg_iald (w := (r11 105 a2.toNatClampNeg)) dd_49_61 zCs_105 g13 rfl ?_
      refine zg_if_ge (tgt := 73) dd_49_62 (by decide) (fun q14 => ?_) (fun q14 => ?_)
      · replace h := z_t h q14
        refine zg_aload_n dd_49_73 rfl (j := 0) rfl ?_
        refine zg_getR dd_49_74 zl_T_48 zCs_0 rfl zCr_0_8 ?_
        refine zg_getR dd_49_77 zl_T_193 zCs_104 rfl zCr_104_0 ?_
        refine zg_iload_n dd_49_80 rfl (j := 2) rfl ?_
        refine zg_iald (w := (r11 105 a2.toNatClampNeg)) dd_49_81 zCs_105 g13 rfl ?_
        obtain rfl := Option.some.inj h
        exact zg_iret dd_49_82 rfl
      · replace h := z_f h q14
        refine zg_aload_n dd_49_65 rfl (j := 0) rfl ?_
        refine zg_iconst dd_49_66 kI_2 ?_
        obtain ⟨r15, e16, h⟩ := z_bd h
        refine zg_invV_i (av := [.inl (2 : Int32)]) (st := []) (n := 1) dd_49_67 ca_2 zw_430 zw_432 zv_0 zCs_0 zcl_11 rfl (mt_fc_T_refuse e16) rfl ⟨by decide +kernel, by decide⟩ (Nat.le_of_ble_eq_true rfl) ?_
        refine zg_goto (tgt := 82) dd_49_70 (by decide) ?_
        obtain rfl := Option.some.inj h
        exact zg_iret dd_49_82 rfl
    · replace h := z_t h q8
      refine zg_aload_n dd_49_28 rfl (j := 0) rfl ?_
      refine zg_iconst dd_49_29 kI_1 ?_
      obtain ⟨r17, e18, h⟩ := z_bd h
      refine zg_invV_i (av := [.inl (1 : Int32)]) (st := []) (n := 1) dd_49_30 ca_2 zw_430 zw_432 zv_0 zCs_0 zcl_11 rfl (mt_fc_T_refuse e18) rfl ⟨by decide +kernel, by decide⟩ (Nat.le_of_ble_eq_true rfl) ?_
      obtain rfl := Option.some.inj h
      exact zg_iret dd_49_33 rfl
/-! TurnedLand.reached(0, None) -/
def fc_T_reached_L43 : Nat → Int32 → Int32 → zI → Option (Int32 × zI)
  | 0, _, _, _ => none
  | nf + 1, v2, v3, I =>
    if (16 : Int32) ≤ v3 then
      some (v2, I)
    else
      z_guard (zb v3 16) <|
      if (I 105 v3.toNatClampNeg) < 0 then
        fc_T_reached_L43 nf v2 (v3 + (1 : Int32)) I
      else
        fc_T_reached_L43 nf (v2 ||| ((1 : Int32) <<< (v3 &&& 31))) (v3 + (1 : Int32)) I
def fc_T_reached (I : zI) (a1 : Int32) : Option (Int32 × zI) :=
  (fc_Ground_hasPlace I a1).bind fun r1 =>
  if r1 = 0 then
    (fc_T_refuse I (1 : Int32)).bind fun r11 =>
    some (r11.1, r11.2)
  else
    (fc_Ways_survey I).bind fun r4 =>
    (fc_Ways_spread r4 a1).bind fun r6 =>
    fc_T_reached_L43
      100 (0 : Int32) (0 : Int32) r6
set_option maxRecDepth 20000 in
theorem lt_fc_T_reached_L43 {res : (Int32 × zI)} : ∀ (nf : Nat) (v2 : Int32) (v3 : Int32) (I : zI), fc_T_reached_L43 nf v2 v3 I = some res → zG 6 ym_62 0 0 (some (.inl res.1)) (zCs, zCr, res.2) zCs.length 43 [(0, .inr (.inr (some 0))), (2, .inl v2), (3, .inl v3)] [] (zCs, zCr, I) 0 0 := by
  intro nf
  induction nf with
  | zero =>
    intro v2 v3 I h
    have h2 : none = some res := h
    cases h2
  | succ nf ih =>
    intro v2 v3 I h
    rw [fc_T_reached_L43] at h
    refine zg_iload_n dd_62_43 rfl (j := 2) rfl ?_
    refine zg_bipush dd_62_44 kB_16 ?_
    refine zg_icmp_ge (tgt := 73) dd_62_46 (by decide) (fun q8 => ?_) (fun q8 => ?_)
    · replace h := z_t h q8
      refine zg_iload_n dd_62_73 rfl (j := 1) rfl ?_
      obtain rfl := Option.some.inj h
      exact zg_iret dd_62_74 rfl
    · replace h := z_f h q8
      refine zg_aload_n dd_62_49 rfl (j := 0) rfl ?_
      refine zg_getR dd_62_50 zl_T_48 zCs_0 rfl zCr_0_8 ?_
      refine zg_getR dd_62_53 zl_T_193 zCs_104 rfl zCr_104_0 ?_
      refine zg_iload_n dd_62_56 rfl (j := 2) rfl ?_
      obtain ⟨g9, h⟩ := z_gd h
      refine zg_iald (w := (I 105 v3.toNatClampNeg)) dd_62_57 zCs_105 g9 rfl ?_
      refine zg_if_lt (tgt := 67) dd_62_58 (by decide) (fun q10 => ?_) (fun q10 => ?_)
      · replace h := z_t h q10
        refine zg_iinc dd_62_67 (j := 2) rfl (v := (v3 + (1 : Int32))) (by rw [kI_1]) (Nat.le_of_ble_eq_true rfl) (lv' := [(3, .inl (v3 + (1 : Int32))), (0, .inr (.inr (some 0))), (2, .inl v2)]) rfl ?_
        refine zg_goto (tgt := 43) dd_62_70 (by decide) ?_
        refine zg_sub [1, 2, 0] rfl ?_
        exact ih _ _ _ h
      · replace h := z_f h q10
        refine zg_iload_n dd_62_61 rfl (j := 1) rfl ?_
        refine zg_iconst dd_62_62 kI_1 ?_
        refine zg_iload_n dd_62_63 rfl (j := 2) rfl ?_
        refine zg_ishl dd_62_64 ?_
        refine zg_ior dd_62_65 ?_
        refine zg_istore_n dd_62_66 rfl (Nat.le_of_ble_eq_true rfl) (lv' := [(2, .inl (v2 ||| ((1 : Int32) <<< (v3 &&& 31)))), (0, .inr (.inr (some 0))), (3, .inl v3)]) rfl ?_
        refine zg_iinc dd_62_67 (j := 2) rfl (v := (v3 + (1 : Int32))) (by rw [kI_1]) (Nat.le_of_ble_eq_true rfl) (lv' := [(3, .inl (v3 + (1 : Int32))), (2, .inl (v2 ||| ((1 : Int32) <<< (v3 &&& 31)))), (0, .inr (.inr (some 0)))]) rfl ?_
        refine zg_goto (tgt := 43) dd_62_70 (by decide) ?_
        refine zg_sub [2, 1, 0] rfl ?_
        exact ih _ _ _ h
set_option maxRecDepth 20000 in
theorem mt_fc_T_reached {I : zI} {a1 : Int32} {res : (Int32 × zI)} (h : fc_T_reached I a1 = some res) : zM 6 ym_62 [.inr (.inr (some 0)), .inl a1] (zCs, zCr, I) (some (.inl res.1)) (zCs, zCr, res.2) 0 0 := by
  refine zM_of (by decide) (Nat.le_of_ble_eq_true rfl) (lv := [(0, .inr (.inr (some 0))), (1, .inl a1)]) rfl ?_
  rw [fc_T_reached] at h
  refine zg_aload_n dd_62_0 rfl (j := 0) rfl ?_
  refine zg_getR dd_62_1 zl_T_12 zCs_0 rfl zCr_0_0 ?_
  refine zg_getR dd_62_4 zl_T_76 zCs_1 rfl zCr_1_0 ?_
  refine zg_iload_n dd_62_7 rfl (j := 1) rfl ?_
  obtain ⟨r1, e2, h⟩ := z_bd h
  refine zg_invV_i (av := [.inl a1]) (st := []) (n := 1) dd_62_8 ca_50 zw_631 zw_632 zw_633 zCs_2 zcl_2 rfl (mt_fc_Ground_hasPlace e2) rfl ⟨by decide +kernel, by decide⟩ (Nat.le_of_ble_eq_true rfl) ?_
  refine zg_if_ne (tgt := 20) dd_62_11 (by decide) (fun q3 => ?_) (fun q3 => ?_)
  · replace h := z_f h q3
    refine zg_aload_n dd_62_20 rfl (j := 0) rfl ?_
    refine zg_getR dd_62_21 zl_T_48 zCs_0 rfl zCr_0_8 ?_
    refine zg_aload_n dd_62_24 rfl (j := 0) rfl ?_
    refine zg_getR dd_62_25 zl_T_12 zCs_0 rfl zCr_0_0 ?_
    obtain ⟨r4, e5, h⟩ := z_bd h
    refine zg_invV_v (av := [.inr (.inr (some 1))]) (st := []) (n := 1) dd_62_28 ca_51 zw_635 zw_636 zw_637 zCs_104 zcl_9 rfl (mt_fc_Ways_survey e5) rfl ⟨by decide +kernel, by decide⟩ (Nat.le_of_ble_eq_true rfl) ?_
    refine zg_aload_n dd_62_31 rfl (j := 0) rfl ?_
    refine zg_getR dd_62_32 zl_T_48 zCs_0 rfl zCr_0_8 ?_
    refine zg_iload_n dd_62_35 rfl (j := 1) rfl ?_
    obtain ⟨r6, e7, h⟩ := z_bd h
    refine zg_invV_v (av := [.inl a1]) (st := []) (n := 1) dd_62_36 ca_59 zw_673 zw_674 zw_675 zCs_104 zcl_9 rfl (mt_fc_Ways_spread e7) rfl ⟨by decide +kernel, by decide⟩ (Nat.le_of_ble_eq_true rfl) ?_
    refine zg_iconst dd_62_39 kI_0 ?_
    refine zg_istore_n dd_62_40 rfl (Nat.le_of_ble_eq_true rfl) (lv' := [(2, .inl (0 : Int32)), (0, .inr (.inr (some 0))), (1, .inl a1)]) rfl ?_
    refine zg_iconst dd_62_41 kI_0 ?_
    refine zg_istore_n dd_62_42 rfl (Nat.le_of_ble_eq_true rfl) (lv' := [(3, .inl (0 : Int32)), (2, .inl (0 : Int32)), (0, .inr (.inr (some 0))), (1, .inl a1)]) rfl ?_
    refine zg_sub [2, 1, 0] rfl ?_
    refine lt_fc_T_reached_L43  _ _ _ _ h
  · replace h := z_t h q3
    refine zg_aload_n dd_62_14 rfl (j := 0) rfl ?_
    refine zg_iconst dd_62_15 kI_1 ?_
    obtain ⟨r11, e12, h⟩ := z_bd h
    refine zg_invV_i (av := [.inl (1 : Int32)]) (st := []) (n := 1) dd_62_16 ca_2 zw_430 zw_432 zv_0 zCs_0 zcl_11 rfl (mt_fc_T_refuse e12) rfl ⟨by decide +kernel, by decide⟩ (Nat.le_of_ble_eq_true rfl) ?_
    obtain rfl := Option.some.inj h
    exact zg_iret dd_62_19 rfl
/-! TurnedLand.first(0, None, None) -/
def fc_T_first_L55 : Nat → Int32 → Int32 → zI → Option (Int32 × zI)
  | 0, _, _, _ => none
  | nf + 1, v2, v3, I =>
    if (4 : Int32) ≤ v3 then
      (fc_T_refuse I (2 : Int32)).bind fun r14 =>
      some (r14.1, r14.2)
    else
      z_guard (zb v2 16) <|
      if (((I 106 v2.toNatClampNeg) >>> (v3 &&& 31)) &&& (1 : Int32)) = (1 : Int32) then
        some (v3, I)
      else
        fc_T_first_L55 nf v2 (v3 + (1 : Int32)) I
def fc_T_first (I : zI) (a1 : Int32) (a2 : Int32) : Option (Int32 × zI) :=
  (fc_Ground_hasPlace I a1).bind fun r1 =>
  if r1 = 0 then
    (fc_T_refuse I (1 : Int32)).bind fun r4 =>
    some (r4.1, r4.2)
  else
    (fc_Ground_hasPlace I a2).bind fun r6 =>
    if r6 = 0 then
      (fc_T_refuse I (1 : Int32)).bind fun r18 =>
      some (r18.1, r18.2)
    else
      (fc_Ways_survey I).bind fun r9 =>
      (fc_Ways_spread r9 a1).bind fun r11 =>
      fc_T_first_L55
        100 a2 (0 : Int32) r11
set_option maxRecDepth 20000 in
theorem lt_fc_T_first_L55 {res : (Int32 × zI)} : ∀ (nf : Nat) (v2 : Int32) (v3 : Int32) (I : zI), fc_T_first_L55 nf v2 v3 I = some res → zG 6 ym_63 0 0 (some (.inl res.1)) (zCs, zCr, res.2) zCs.length 55 [(0, .inr (.inr (some 0))), (2, .inl v2), (3, .inl v3)] [] (zCs, zCr, I) 0 0 := by
  intro nf
  induction nf with
  | zero =>
    intro v2 v3 I h
    have h2 : none = some res := h
    cases h2
  | succ nf ih =>
    intro v2 v3 I h
    rw [fc_T_first_L55] at h
    refine zg_iload_n dd_63_55 rfl (j := 2) rfl ?_
    refine zg_iconst dd_63_56 kI_4 ?_
    refine zg_icmp_ge (tgt := 85) dd_63_57 (by decide) (fun q13 => ?_) (fun q13 => ?_)
    · replace h := z_t h q13
      refine zg_aload_n dd_63_85 rfl (j := 0) rfl ?_
      refine zg_iconst dd_63_86 kI_2 ?_
      obtain ⟨r14, e15, h⟩ := z_bd h
      refine zg_invV_i (av := [.inl (2 : Int32)]) (st := []) (n := 1) dd_63_87 ca_2 zw_430 zw_432 zv_0 zCs_0 zcl_11 rfl (mt_fc_T_refuse e15) rfl ⟨by decide +kernel, by decide⟩ (Nat.le_of_ble_eq_true rfl) ?_
      obtain rfl := Option.some.inj h
      exact zg_iret dd_63_90 rfl
    · replace h := z_f h q13
      refine zg_aload_n dd_63_60 rfl (j := 0) rfl ?_
      refine zg_getR dd_63_61 zl_T_48 zCs_0 rfl zCr_0_8 ?_
      refine zg_getR dd_63_64 zl_T_196 zCs_104 rfl zCr_104_1 ?_
      refine zg_iload_n dd_63_67 rfl (j := 1) rfl ?_
      obtain ⟨g16, h⟩ := z_gd h
      refine zg_iald (w := (I 106 v2.toNatClampNeg)) dd_63_68 zCs_106 g16 rfl ?_
      refine zg_iload_n dd_63_69 rfl (j := 2) rfl ?_
      refine zg_ishr dd_63_70 ?_
      refine zg_iconst dd_63_71 kI_1 ?_
      refine zg_iand dd_63_72 ?_
      refine zg_iconst dd_63_73 kI_1 ?_
      refine zg_icmp_ne (tgt := 79) dd_63_74 (by decide) (fun q17 => ?_) (fun q17 => ?_)
      · replace h := z_f h q17
        refine zg_iinc dd_63_79 (j := 2) rfl (v := (v3 + (1 : Int32))) (by rw [kI_1]) (Nat.le_of_ble_eq_true rfl) (lv' := [(3, .inl (v3 + (1 : Int32))), (0, .inr (.inr (some 0))), (2, .inl v2)]) rfl ?_
        refine zg_goto (tgt := 55) dd_63_82 (by decide) ?_
        refine zg_sub [1, 2, 0] rfl ?_
        exact ih _ _ _ h
      · replace h := z_t h q17
        refine zg_iload_n dd_63_77 rfl (j := 2) rfl ?_
        obtain rfl := Option.some.inj h
        exact zg_iret dd_63_78 rfl
set_option maxRecDepth 20000 in
theorem mt_fc_T_first {I : zI} {a1 : Int32} {a2 : Int32} {res : (Int32 × zI)} (h : fc_T_first I a1 a2 = some res) : zM 6 ym_63 [.inr (.inr (some 0)), .inl a1, .inl a2] (zCs, zCr, I) (some (.inl res.1)) (zCs, zCr, res.2) 0 0 := by
  refine zM_of (by decide) (Nat.le_of_ble_eq_true rfl) (lv := [(0, .inr (.inr (some 0))), (1, .inl a1), (2, .inl a2)]) rfl ?_
  rw [fc_T_first] at h
  refine zg_aload_n dd_63_0 rfl (j := 0) rfl ?_
  refine zg_getR dd_63_1 zl_T_12 zCs_0 rfl zCr_0_0 ?_
  refine zg_getR dd_63_4 zl_T_76 zCs_1 rfl zCr_1_0 ?_
  refine zg_iload_n dd_63_7 rfl (j := 1) rfl ?_
  obtain ⟨r1, e2, h⟩ := z_bd h
  refine zg_invV_i (av := [.inl a1]) (st := []) (n := 1) dd_63_8 ca_50 zw_631 zw_632 zw_633 zCs_2 zcl_2 rfl (mt_fc_Ground_hasPlace e2) rfl ⟨by decide +kernel, by decide⟩ (Nat.le_of_ble_eq_true rfl) ?_
  refine zg_if_eq (tgt := 28) dd_63_11 (by decide) (fun q3 => ?_) (fun q3 => ?_)
  · replace h := z_t h q3
    refine zg_aload_n dd_63_28 rfl (j := 0) rfl ?_
    refine zg_iconst dd_63_29 kI_1 ?_
    obtain ⟨r4, e5, h⟩ := z_bd h
    refine zg_invV_i (av := [.inl (1 : Int32)]) (st := []) (n := 1) dd_63_30 ca_2 zw_430 zw_432 zv_0 zCs_0 zcl_11 rfl (mt_fc_T_refuse e5) rfl ⟨by decide +kernel, by decide⟩ (Nat.le_of_ble_eq_true rfl) ?_
    obtain rfl := Option.some.inj h
    exact zg_iret dd_63_33 rfl
  · replace h := z_f h q3
    refine zg_aload_n dd_63_14 rfl (j := 0) rfl ?_
    refine zg_getR dd_63_15 zl_T_12 zCs_0 rfl zCr_0_0 ?_
    refine zg_getR dd_63_18 zl_T_76 zCs_1 rfl zCr_1_0 ?_
    refine zg_iload_n dd_63_21 rfl (j := 2) rfl ?_
    obtain ⟨r6, e7, h⟩ := z_bd h
    refine zg_invV_i (av := [.inl a2]) (st := []) (n := 1) dd_63_22 ca_50 zw_631 zw_632 zw_633 zCs_2 zcl_2 rfl (mt_fc_Ground_hasPlace e7) rfl ⟨by decide +kernel, by decide⟩ (Nat.le_of_ble_eq_true rfl) ?_
    refine zg_if_ne (tgt := 34) dd_63_25 (by decide) (fun q8 => ?_) (fun q8 => ?_)
    · replace h := z_f h q8
      refine zg_aload_n dd_63_34 rfl (j := 0) rfl ?_
      refine zg_getR dd_63_35 zl_T_48 zCs_0 rfl zCr_0_8 ?_
      refine zg_aload_n dd_63_38 rfl (j := 0) rfl ?_
      refine zg_getR dd_63_39 zl_T_12 zCs_0 rfl zCr_0_0 ?_
      obtain ⟨r9, e10, h⟩ := z_bd h
      refine zg_invV_v (av := [.inr (.inr (some 1))]) (st := []) (n := 1) dd_63_42 ca_51 zw_635 zw_636 zw_637 zCs_104 zcl_9 rfl (mt_fc_Ways_survey e10) rfl ⟨by decide +kernel, by decide⟩ (Nat.le_of_ble_eq_true rfl) ?_
      refine zg_aload_n dd_63_45 rfl (j := 0) rfl ?_
      refine zg_getR dd_63_46 zl_T_48 zCs_0 rfl zCr_0_8 ?_
      refine zg_iload_n dd_63_49 rfl (j := 1) rfl ?_
      obtain ⟨r11, e12, h⟩ := z_bd h
      refine zg_invV_v (av := [.inl a1]) (st := []) (n := 1) dd_63_50 ca_59 zw_673 zw_674 zw_675 zCs_104 zcl_9 rfl (mt_fc_Ways_spread e12) rfl ⟨by decide +kernel, by decide⟩ (Nat.le_of_ble_eq_true rfl) ?_
      refine zg_iconst dd_63_53 kI_0 ?_
      refine zg_istore_n dd_63_54 rfl (Nat.le_of_ble_eq_true rfl) (lv' := [(3, .inl (0 : Int32)), (0, .inr (.inr (some 0))), (1, .inl a1), (2, .inl a2)]) rfl ?_
      refine zg_sub [1, 3, 0] rfl ?_
      refine lt_fc_T_first_L55  _ _ _ _ h
    · replace h := z_t h q8
      refine zg_aload_n dd_63_28 rfl (j := 0) rfl ?_
      refine zg_iconst dd_63_29 kI_1 ?_
      obtain ⟨r18, e19, h⟩ := z_bd h
      refine zg_invV_i (av := [.inl (1 : Int32)]) (st := []) (n := 1) dd_63_30 ca_2 zw_430 zw_432 zv_0 zCs_0 zcl_11 rfl (mt_fc_T_refuse e19) rfl ⟨by decide +kernel, by decide⟩ (Nat.le_of_ble_eq_true rfl) ?_
      obtain rfl := Option.some.inj h
      exact zg_iret dd_63_33 rfl
/-! TurnedLand$Walks.stepsOf[None] -/
def fc_Walks_stepsOf_L6 (I : zI) : Nat → Int32 → Int32 → Int32 → Option Int32
  | 0, _, _, _ => none
  | nf + 1, v1, v2, v3 =>
    if (8 : Int32) ≤ v3 then
      if v1 = 0 then
        some v2
      else
        some (-1 : Int32)
    else
      if v1 ≤ 0 then
        if v1 = 0 then
          some v2
        else
          some (-1 : Int32)
      else
        (fc_T_within I (v1 % (10 : Int32)) (1 : Int32) (4 : Int32)).bind fun r5 =>
        if r5 = 0 then
          some (-1 : Int32)
        else
          fc_Walks_stepsOf_L6 I nf (v1 / (10 : Int32)) (v2 + (1 : Int32)) (v3 + (1 : Int32))
def fc_Walks_stepsOf (I : zI) (a0 : Int32) : Option Int32 :=
  fc_Walks_stepsOf_L6 I
    100 a0 (0 : Int32) (0 : Int32)
set_option maxRecDepth 20000 in
theorem lt_fc_Walks_stepsOf_L6 {res : Int32} {I : zI} : ∀ (nf : Nat) (v1 : Int32) (v2 : Int32) (v3 : Int32), fc_Walks_stepsOf_L6 I nf v1 v2 v3 = some res → zG 2 ym_65 0 0 (some (.inl res)) (zCs, zCr, I) zCs.length 6 [(1, .inl v1), (2, .inl v2), (3, .inl v3)] [] (zCs, zCr, I) 0 0 := by
  intro nf
  induction nf with
  | zero =>
    intro v1 v2 v3 h
    have h2 : none = some res := h
    cases h2
  | succ nf ih =>
    intro v1 v2 v3 h
    rw [fc_Walks_stepsOf_L6] at h
    refine zg_iload_n dd_65_6 rfl (j := 2) rfl ?_
    refine zg_bipush dd_65_7 kB_8 ?_
    refine zg_icmp_ge (tgt := 44) dd_65_9 (by decide) (fun q1 => ?_) (fun q1 => ?_)
    · replace h := z_t h q1
      refine zg_iload_n dd_65_44 rfl (j := 0) rfl ?_
      refine zg_if_ne (tgt := 52) dd_65_45 (by decide) (fun q2 => ?_) (fun q2 => ?_)
      · replace h := z_f h q2
        refine zg_iconst dd_65_52 kI_m1 ?_
        obtain rfl := Option.some.inj h
        exact zg_iret dd_65_53 rfl
      · replace h := z_t h q2
        refine zg_iload_n dd_65_48 rfl (j := 1) rfl ?_
        refine zg_goto (tgt := 53) dd_65_49 (by decide) ?_
        obtain rfl := Option.some.inj h
        exact zg_iret dd_65_53 rfl
    · replace h := z_f h q1
      refine zg_iload_n dd_65_12 rfl (j := 0) rfl ?_
      refine zg_if_le (tgt := 44) dd_65_13 (by decide) (fun q3 => ?_) (fun q3 => ?_)
      · replace h := z_t h q3
        refine zg_iload_n dd_65_44 rfl (j := 0) rfl ?_
        refine zg_if_ne (tgt := 52) dd_65_45 (by decide) (fun q4 => ?_) (fun q4 => ?_)
        · replace h := z_f h q4
          refine zg_iconst dd_65_52 kI_m1 ?_
          obtain rfl := Option.some.inj h
          exact zg_iret dd_65_53 rfl
        · replace h := z_t h q4
          refine zg_iload_n dd_65_48 rfl (j := 1) rfl ?_
          refine zg_goto (tgt := 53) dd_65_49 (by decide) ?_
          obtain rfl := Option.some.inj h
          exact zg_iret dd_65_53 rfl
      · replace h := z_f h q3
        refine zg_iload_n dd_65_16 rfl (j := 0) rfl ?_
        refine zg_bipush dd_65_17 kB_10 ?_
        refine zg_irem dd_65_19 (by decide) ?_
        refine zg_iconst dd_65_20 kI_1 ?_
        refine zg_iconst dd_65_21 kI_4 ?_
        obtain ⟨r5, e6, h⟩ := z_bd h
        refine zg_invSN_i (av := [.inl (v1 % (10 : Int32)), .inl (1 : Int32), .inl (4 : Int32)]) (st := []) (n := 3) dd_65_22 ca_1 (List.mem_of_getElem? (i := 14) rfl) zw_428 (mt_fc_T_within e6) rfl ⟨by decide +kernel, by decide⟩ (Nat.le_of_ble_eq_true rfl) ?_
        refine zg_if_ne (tgt := 30) dd_65_25 (by decide) (fun q7 => ?_) (fun q7 => ?_)
        · replace h := z_f h q7
          refine zg_iload_n dd_65_30 rfl (j := 0) rfl ?_
          refine zg_bipush dd_65_31 kB_10 ?_
          refine zg_idiv dd_65_33 (by decide) ?_
          refine zg_istore_n dd_65_34 rfl (Nat.le_of_ble_eq_true rfl) (lv' := [(1, .inl (v1 / (10 : Int32))), (2, .inl v2), (3, .inl v3)]) rfl ?_
          refine zg_iinc dd_65_35 (j := 1) rfl (v := (v2 + (1 : Int32))) (by rw [kI_1]) (Nat.le_of_ble_eq_true rfl) (lv' := [(2, .inl (v2 + (1 : Int32))), (1, .inl (v1 / (10 : Int32))), (3, .inl v3)]) rfl ?_
          refine zg_iinc dd_65_38 (j := 2) rfl (v := (v3 + (1 : Int32))) (by rw [kI_1]) (Nat.le_of_ble_eq_true rfl) (lv' := [(3, .inl (v3 + (1 : Int32))), (2, .inl (v2 + (1 : Int32))), (1, .inl (v1 / (10 : Int32)))]) rfl ?_
          refine zg_goto (tgt := 6) dd_65_41 (by decide) ?_
          refine zg_sub [2, 1, 0] rfl ?_
          exact ih _ _ _ h
        · replace h := z_t h q7
          refine zg_iconst dd_65_28 kI_m1 ?_
          obtain rfl := Option.some.inj h
          exact zg_iret dd_65_29 rfl
set_option maxRecDepth 20000 in
theorem mt_fc_Walks_stepsOf {I : zI} {a0 : Int32} {res : Int32} (h : fc_Walks_stepsOf I a0 = some res) : zM 2 ym_65 [.inl a0] (zCs, zCr, I) (some (.inl res)) (zCs, zCr, I) 0 0 := by
  refine zM_of (by decide) (Nat.le_of_ble_eq_true rfl) (lv := [(0, .inl a0)]) rfl ?_
  rw [fc_Walks_stepsOf] at h
  refine zg_iload_n dd_65_0 rfl (j := 0) rfl ?_
  refine zg_istore_n dd_65_1 rfl (Nat.le_of_ble_eq_true rfl) (lv' := [(1, .inl a0), (0, .inl a0)]) rfl ?_
  refine zg_iconst dd_65_2 kI_0 ?_
  refine zg_istore_n dd_65_3 rfl (Nat.le_of_ble_eq_true rfl) (lv' := [(2, .inl (0 : Int32)), (1, .inl a0), (0, .inl a0)]) rfl ?_
  refine zg_iconst dd_65_4 kI_0 ?_
  refine zg_istore_n dd_65_5 rfl (Nat.le_of_ble_eq_true rfl) (lv' := [(3, .inl (0 : Int32)), (2, .inl (0 : Int32)), (1, .inl a0), (0, .inl a0)]) rfl ?_
  refine zg_sub [2, 1, 0] rfl ?_
  refine lt_fc_Walks_stepsOf_L6  _ _ _ _ h
/-! TurnedLand$Walks.add[7, None, None, None] -/
def fc_Walks_add_L59 : Nat → Int32 → Int32 → zI → Option (Int32 × zI)
  | 0, _, _, _ => none
  | nf + 1, v4, v5, I =>
    if v5 < 0 then
      some ((I 7 0), (zup I 7 0 ((I 7 0) + (1 : Int32))))
    else
      z_guard (zb (I 7 0) 10) <|
      z_guard (zb v5 8) <|
      fc_Walks_add_L59 nf (v4 / (10 : Int32)) (v5 + (-1 : Int32)) (zup I (13 + (I 7 0).toNatClampNeg) v5.toNatClampNeg ((v4 % (10 : Int32)) - (1 : Int32)))
def fc_Walks_add (I : zI) (a1 : Int32) (a2 : Int32) (a3 : Int32) : Option (Int32 × zI) :=
  z_guard (zb (I 7 0) 10) <|
  (fc_Walks_stepsOf (zup (zup I 8 (I 7 0).toNatClampNeg a1) 9 (I 7 0).toNatClampNeg a2) a3).bind fun r2 =>
  fc_Walks_add_L59
    100 a3 (r2 - (1 : Int32)) (zup (zup (zup (zup I 8 (I 7 0).toNatClampNeg a1) 9 (I 7 0).toNatClampNeg a2) 10 (I 7 0).toNatClampNeg r2) 11 (I 7 0).toNatClampNeg (-1 : Int32))
set_option maxRecDepth 20000 in
theorem lt_fc_Walks_add_L59 {res : (Int32 × zI)} : ∀ (nf : Nat) (v4 : Int32) (v5 : Int32) (I : zI), fc_Walks_add_L59 nf v4 v5 I = some res → zG 3 ym_66 0 0 (some (.inl res.1)) (zCs, zCr, res.2) zCs.length 59 [(0, .inr (.inr (some 7))), (4, .inl v4), (5, .inl v5)] [] (zCs, zCr, I) 0 0 := by
  intro nf
  induction nf with
  | zero =>
    intro v4 v5 I h
    have h2 : none = some res := h
    cases h2
  | succ nf ih =>
    intro v4 v5 I h
    rw [fc_Walks_add_L59] at h
    refine zg_iload dd_66_59 (j := 2) rfl ?_
    refine zg_if_lt (tgt := 96) dd_66_61 (by decide) (fun q4 => ?_) (fun q4 => ?_)
    · replace h := z_t h q4
      refine zg_aload_n dd_66_96 rfl (j := 0) rfl ?_
      refine zg_dup dd_66_97 rfl ?_
      refine zg_getI (x := (I 7 0)) dd_66_98 zl_Walks_9 zCs_7 rfl rfl ?_
      refine zg_dup_x1 dd_66_101 rfl rfl ?_
      refine zg_iconst dd_66_102 kI_1 ?_
      refine zg_iadd dd_66_103 ?_
      refine zg_putI dd_66_104 zp_Walks_9 zCs_7 rfl (zSt_int _) ?_
      obtain rfl := Option.some.inj h
      exact zg_iret dd_66_107 rfl
    · replace h := z_f h q4
      refine zg_aload_n dd_66_64 rfl (j := 0) rfl ?_
      refine zg_getR dd_66_65 zl_Walks_30 zCs_7 rfl zCr_7_5 ?_
      refine zg_aload_n dd_66_68 rfl (j := 0) rfl ?_
      refine zg_getI (x := (I 7 0)) dd_66_69 zl_Walks_9 zCs_7 rfl rfl ?_
      obtain ⟨g5, h⟩ := z_gd h
      refine zg_aald1 dd_66_72 zCs_12 g5 (zrR_C_12 g5) ?_
      refine zg_iload dd_66_73 (j := 2) rfl ?_
      refine zg_iload dd_66_75 (j := 1) rfl ?_
      refine zg_bipush dd_66_77 kB_10 ?_
      refine zg_irem dd_66_79 (by decide) ?_
      refine zg_iconst dd_66_80 kI_1 ?_
      refine zg_isub dd_66_81 ?_
      obtain ⟨g6, h⟩ := z_gd h
      refine zg_iast dd_66_82 (zrS_C_12 g5) g6 ?_
      refine zg_iload dd_66_83 (j := 1) rfl ?_
      refine zg_bipush dd_66_85 kB_10 ?_
      refine zg_idiv dd_66_87 (by decide) ?_
      refine zg_istore dd_66_88 (Nat.le_of_ble_eq_true rfl) (lv' := [(4, .inl (v4 / (10 : Int32))), (0, .inr (.inr (some 7))), (5, .inl v5)]) rfl ?_
      refine zg_iinc dd_66_90 (j := 2) rfl (v := (v5 + (-1 : Int32))) (by rw [kI_m1]) (Nat.le_of_ble_eq_true rfl) (lv' := [(5, .inl (v5 + (-1 : Int32))), (4, .inl (v4 / (10 : Int32))), (0, .inr (.inr (some 7)))]) rfl ?_
      refine zg_goto (tgt := 59) dd_66_93 (by decide) ?_
      refine zg_sub [2, 1, 0] rfl ?_
      exact ih _ _ _ h
set_option maxRecDepth 20000 in
theorem mt_fc_Walks_add {I : zI} {a1 : Int32} {a2 : Int32} {a3 : Int32} {res : (Int32 × zI)} (h : fc_Walks_add I a1 a2 a3 = some res) : zM 3 ym_66 [.inr (.inr (some 7)), .inl a1, .inl a2, .inl a3] (zCs, zCr, I) (some (.inl res.1)) (zCs, zCr, res.2) 0 0 := by
  refine zM_of (by decide) (Nat.le_of_ble_eq_true rfl) (lv := [(0, .inr (.inr (some 7))), (1, .inl a1), (2, .inl a2), (3, .inl a3)]) rfl ?_
  rw [fc_Walks_add] at h
  refine zg_aload_n dd_66_0 rfl (j := 0) rfl ?_
  refine zg_getR dd_66_1 zl_Walks_15 zCs_7 rfl zCr_7_1 ?_
  refine zg_aload_n dd_66_4 rfl (j := 0) rfl ?_
  refine zg_getI (x := (I 7 0)) dd_66_5 zl_Walks_9 zCs_7 rfl rfl ?_
  refine zg_iload_n dd_66_8 rfl (j := 1) rfl ?_
  obtain ⟨g1, h⟩ := z_gd h
  refine zg_iast dd_66_9 zCs_8 g1 ?_
  refine zg_aload_n dd_66_10 rfl (j := 0) rfl ?_
  refine zg_getR dd_66_11 zl_Walks_19 zCs_7 rfl zCr_7_2 ?_
  refine zg_aload_n dd_66_14 rfl (j := 0) rfl ?_
  refine zg_getI (x := (I 7 0)) dd_66_15 zl_Walks_9 zCs_7 rfl rfl ?_
  refine zg_iload_n dd_66_18 rfl (j := 2) rfl ?_
  refine zg_iast dd_66_19 zCs_9 g1 ?_
  refine zg_aload_n dd_66_20 rfl (j := 0) rfl ?_
  refine zg_getR dd_66_21 zl_Walks_22 zCs_7 rfl zCr_7_3 ?_
  refine zg_aload_n dd_66_24 rfl (j := 0) rfl ?_
  refine zg_getI (x := (I 7 0)) dd_66_25 zl_Walks_9 zCs_7 rfl rfl ?_
  refine zg_iload_n dd_66_28 rfl (j := 3) rfl ?_
  obtain ⟨r2, e3, h⟩ := z_bd h
  refine zg_invS_i (av := [.inl a3]) (st := [.inl (I 7 0), .inr (.inr (some 10))]) (n := 1) dd_66_29 ca_65 zw_706 zw_699 (mt_fc_Walks_stepsOf e3) rfl ⟨by decide +kernel, by decide⟩ (Nat.le_of_ble_eq_true rfl) ?_
  refine zg_iast dd_66_32 zCs_10 g1 ?_
  refine zg_aload_n dd_66_33 rfl (j := 0) rfl ?_
  refine zg_getR dd_66_34 zl_Walks_25 zCs_7 rfl zCr_7_4 ?_
  refine zg_aload_n dd_66_37 rfl (j := 0) rfl ?_
  refine zg_getI (x := (I 7 0)) dd_66_38 zl_Walks_9 zCs_7 rfl rfl ?_
  refine zg_iconst dd_66_41 kI_m1 ?_
  refine zg_iast dd_66_42 zCs_11 g1 ?_
  refine zg_iload_n dd_66_43 rfl (j := 3) rfl ?_
  refine zg_istore dd_66_44 (Nat.le_of_ble_eq_true rfl) (lv' := [(4, .inl a3), (0, .inr (.inr (some 7))), (1, .inl a1), (2, .inl a2), (3, .inl a3)]) rfl ?_
  refine zg_aload_n dd_66_46 rfl (j := 1) rfl ?_
  refine zg_getR dd_66_47 zl_Walks_22 zCs_7 rfl zCr_7_3 ?_
  refine zg_aload_n dd_66_50 rfl (j := 1) rfl ?_
  refine zg_getI (x := (I 7 0)) dd_66_51 zl_Walks_9 zCs_7 rfl rfl ?_
  refine zg_iald (w := r2) dd_66_54 zCs_10 g1 (by simp [zup]) ?_
  refine zg_iconst dd_66_55 kI_1 ?_
  refine zg_isub dd_66_56 ?_
  refine zg_istore dd_66_57 (Nat.le_of_ble_eq_true rfl) (lv' := [(5, .inl (r2 - (1 : Int32))), (4, .inl a3), (0, .inr (.inr (some 7))), (1, .inl a1), (2, .inl a2), (3, .inl a3)]) rfl ?_
  refine zg_sub [2, 1, 0] rfl ?_
  refine lt_fc_Walks_add_L59  _ _ _ _ h
/-! TurnedLand.walk(0, None, None, None) -/
def fc_T_walk (I : zI) (a1 : Int32) (a2 : Int32) (a3 : Int32) : Option (Int32 × zI) :=
  (fc_Walks_stepsOf I a3).bind fun r1 =>
  (fc_T_within I a1 (0 : Int32) (6 : Int32)).bind fun r3 =>
  if r3 = 0 then
    (fc_T_refuse I (1 : Int32)).bind fun r6 =>
    some (r6.1, r6.2)
  else
    (fc_Ground_hasSquare I a2).bind fun r8 =>
    if r8 = 0 then
      (fc_T_refuse I (1 : Int32)).bind fun r11 =>
      some (r11.1, r11.2)
    else
      if 0 ≤ r1 then
        if (I 7 0) < (10 : Int32) then
          (fc_Walks_add I a1 a2 a3).bind fun r15 =>
          some (r15.1, r15.2)
        else
          (fc_T_refuse I (4 : Int32)).bind fun r17 =>
          some (r17.1, r17.2)
      else
        (fc_T_refuse I (1 : Int32)).bind fun r19 =>
        some (r19.1, r19.2)
set_option maxRecDepth 20000 in
theorem mt_fc_T_walk {I : zI} {a1 : Int32} {a2 : Int32} {a3 : Int32} {res : (Int32 × zI)} (h : fc_T_walk I a1 a2 a3 = some res) : zM 4 ym_64 [.inr (.inr (some 0)), .inl a1, .inl a2, .inl a3] (zCs, zCr, I) (some (.inl res.1)) (zCs, zCr, res.2) 0 0 := by
  refine zM_of (by decide) (Nat.le_of_ble_eq_true rfl) (lv := [(0, .inr (.inr (some 0))), (1, .inl a1), (2, .inl a2), (3, .inl a3)]) rfl ?_
  rw [fc_T_walk] at h
  refine zg_aload_n dd_64_0 rfl (j := 0) rfl ?_
  refine zg_getR dd_64_1 zl_T_12 zCs_0 rfl zCr_0_0 ?_
  refine zg_getR dd_64_4 zl_T_199 zCs_1 rfl zCr_1_1 ?_
  refine zg_astore dd_64_7 (Nat.le_of_ble_eq_true rfl) (lv' := [(4, .inr (.inr (some 7))), (0, .inr (.inr (some 0))), (1, .inl a1), (2, .inl a2), (3, .inl a3)]) rfl ?_
  refine zg_iload_n dd_64_9 rfl (j := 4) rfl ?_
  obtain ⟨r1, e2, h⟩ := z_bd h
  refine zg_invS_i (av := [.inl a3]) (st := []) (n := 1) dd_64_10 ca_65 zw_698 zw_699 (mt_fc_Walks_stepsOf e2) rfl ⟨by decide +kernel, by decide⟩ (Nat.le_of_ble_eq_true rfl) ?_
  refine zg_istore dd_64_13 (Nat.le_of_ble_eq_true rfl) (lv' := [(5, .inl r1), (4, .inr (.inr (some 7))), (0, .inr (.inr (some 0))), (1, .inl a1), (2, .inl a2), (3, .inl a3)]) rfl ?_
  refine zg_iload_n dd_64_15 rfl (j := 3) rfl ?_
  refine zg_iconst dd_64_16 kI_0 ?_
  refine zg_bipush dd_64_17 kB_6 ?_
  obtain ⟨r3, e4, h⟩ := z_bd h
  refine zg_invS_i (av := [.inl a1, .inl (0 : Int32), .inl (6 : Int32)]) (st := []) (n := 3) dd_64_19 ca_1 zw_427 zw_428 (mt_fc_T_within e4) rfl ⟨by decide +kernel, by decide⟩ (Nat.le_of_ble_eq_true rfl) ?_
  refine zg_if_eq (tgt := 44) dd_64_22 (by decide) (fun q5 => ?_) (fun q5 => ?_)
  · replace h := z_t h q5
    refine zg_aload_n dd_64_44 rfl (j := 2) rfl ?_
    refine zg_iconst dd_64_45 kI_1 ?_
    obtain ⟨r6, e7, h⟩ := z_bd h
    refine zg_invV_i (av := [.inl (1 : Int32)]) (st := []) (n := 1) dd_64_46 ca_2 zw_430 zw_432 zv_0 zCs_0 zcl_11 rfl (mt_fc_T_refuse e7) rfl ⟨by decide +kernel, by decide⟩ (Nat.le_of_ble_eq_true rfl) ?_
    obtain rfl := Option.some.inj h
    exact zg_iret dd_64_49 rfl
  · replace h := z_f h q5
    refine zg_aload_n dd_64_25 rfl (j := 2) rfl ?_
    refine zg_getR dd_64_26 zl_T_12 zCs_0 rfl zCr_0_0 ?_
    refine zg_getR dd_64_29 zl_T_76 zCs_1 rfl zCr_1_0 ?_
    refine zg_iload_n dd_64_32 rfl (j := 4) rfl ?_
    obtain ⟨r8, e9, h⟩ := z_bd h
    refine zg_invV_i (av := [.inl a2]) (st := []) (n := 1) dd_64_33 ca_4 zw_439 zw_440 zw_441 zCs_2 zcl_2 rfl (mt_fc_Ground_hasSquare e9) rfl ⟨by decide +kernel, by decide⟩ (Nat.le_of_ble_eq_true rfl) ?_
    refine zg_if_eq (tgt := 44) dd_64_36 (by decide) (fun q10 => ?_) (fun q10 => ?_)
    · replace h := z_t h q10
      refine zg_aload_n dd_64_44 rfl (j := 2) rfl ?_
      refine zg_iconst dd_64_45 kI_1 ?_
      obtain ⟨r11, e12, h⟩ := z_bd h
      refine zg_invV_i (av := [.inl (1 : Int32)]) (st := []) (n := 1) dd_64_46 ca_2 zw_430 zw_432 zv_0 zCs_0 zcl_11 rfl (mt_fc_T_refuse e12) rfl ⟨by decide +kernel, by decide⟩ (Nat.le_of_ble_eq_true rfl) ?_
      obtain rfl := Option.some.inj h
      exact zg_iret dd_64_49 rfl
    · replace h := z_f h q10
      refine zg_iload dd_64_39 (j := 0) rfl ?_
      refine zg_if_ge (tgt := 50) dd_64_41 (by decide) (fun q13 => ?_) (fun q13 => ?_)
      · replace h := z_t h q13
        refine zg_aload dd_64_50 (j := 1) rfl ?_
        refine zg_getI (x := (I 7 0)) dd_64_52 zl_T_208 zCs_7 rfl rfl ?_
        refine zg_bipush dd_64_55 kB_10 ?_
        refine zg_icmp_lt (tgt := 66) dd_64_57 (by decide) (fun q14 => ?_) (fun q14 => ?_)
        · replace h := z_t h q14
          refine zg_aload dd_64_66 (j := 1) rfl ?_
          refine zg_iload_n dd_64_68 rfl (j := 3) rfl ?_
          refine zg_iload_n dd_64_69 rfl (j := 4) rfl ?_
          refine zg_iload_n dd_64_70 rfl (j := 5) rfl ?_
          obtain ⟨r15, e16, h⟩ := z_bd h
          refine zg_invV_i (av := [.inl a1, .inl a2, .inl a3]) (st := []) (n := 3) dd_64_71 ca_66 zw_702 zw_703 zw_704 zCs_7 zcl_8 rfl (mt_fc_Walks_add e16) rfl ⟨by decide +kernel, by decide⟩ (Nat.le_of_ble_eq_true rfl) ?_
          obtain rfl := Option.some.inj h
          exact zg_iret dd_64_74 rfl
        · replace h := z_f h q14
          refine zg_aload_n dd_64_60 rfl (j := 2) rfl ?_
          refine zg_iconst dd_64_61 kI_4 ?_
          obtain ⟨r17, e18, h⟩ := z_bd h
          refine zg_invV_i (av := [.inl (4 : Int32)]) (st := []) (n := 1) dd_64_62 ca_2 zw_430 zw_432 zv_0 zCs_0 zcl_11 rfl (mt_fc_T_refuse e18) rfl ⟨by decide +kernel, by decide⟩ (Nat.le_of_ble_eq_true rfl) ?_
          obtain rfl := Option.some.inj h
          exact zg_iret dd_64_65 rfl
      · replace h := z_f h q13
        refine zg_aload_n dd_64_44 rfl (j := 2) rfl ?_
        refine zg_iconst dd_64_45 kI_1 ?_
        obtain ⟨r19, e20, h⟩ := z_bd h
        refine zg_invV_i (av := [.inl (1 : Int32)]) (st := []) (n := 1) dd_64_46 ca_2 zw_430 zw_432 zv_0 zCs_0 zcl_11 rfl (mt_fc_T_refuse e20) rfl ⟨by decide +kernel, by decide⟩ (Nat.le_of_ble_eq_true rfl) ?_
        obtain rfl := Option.some.inj h
        exact zg_iret dd_64_49 rfl
