/-! TurnedLand$Walks.has[7, None] -/
def fc_Walks_has (I : zI) (a1 : Int32) : Option Int32 :=
  (fc_T_within I a1 (0 : Int32) ((I 7 0) - (1 : Int32))).bind fun r1 =>
  z_guard (zbb r1) <|
  some r1
set_option maxRecDepth 20000 in
theorem mt_fc_Walks_has {I : zI} {a1 : Int32} {res : Int32} (h : fc_Walks_has I a1 = some res) : zM 2 ym_69 [.inr (.inr (some 7)), .inl a1] (zCs, zCr, I) (some (.inl res)) (zCs, zCr, I) 0 0 := by
  refine zM_of (by decide) (Nat.le_of_ble_eq_true rfl) (lv := [(0, .inr (.inr (some 7))), (1, .inl a1)]) rfl ?_
  rw [fc_Walks_has] at h
  refine zg_iload_n dd_69_0 rfl (j := 1) rfl ?_
  refine zg_iconst dd_69_1 kI_0 ?_
  refine zg_aload_n dd_69_2 rfl (j := 0) rfl ?_
  refine zg_getI dd_69_3 zl_Walks_9 zCs_7 rfl ?_
  refine zg_iconst dd_69_6 kI_1 ?_
  refine zg_isub dd_69_7 ?_
  obtain ⟨r1, e2, h⟩ := z_bd h
  refine zg_invSN_i (av := [.inl a1, .inl (0 : Int32), .inl ((I 7 0) - (1 : Int32))]) (st := []) (n := 3) dd_69_8 ca_1 (List.mem_of_getElem? (i := 14) rfl) zw_428 (mt_fc_T_within e2) rfl ⟨by decide +kernel, by decide⟩ (Nat.le_of_ble_eq_true rfl) ?_
  obtain ⟨g3, h⟩ := z_gd h
  obtain rfl := Option.some.inj h
  exact zg_zret dd_69_11 rfl (zSt_bb g3).1
/-! TurnedLand$Walker.goes[178, 1, None, None] -/
def fc_Walker_goes_L55 : Nat → Int32 → Int32 → Int32 → Int32 → zI → Option (Int32 × zI)
  | 0, _, _, _, _, _ => none
  | nf + 1, v2, v4, v5, v6, I =>
    if v5 ≤ v6 then
      some ((1 : Int32), I)
    else
      z_guard (zb v2 10) <|
      z_guard (zb v6 8) <|
      (fc_Ground_comesTo I v4 (I (13 + v2.toNatClampNeg) v6.toNatClampNeg)).bind fun r9 =>
      if r9 = (-1 : Int32) then
        some ((0 : Int32), I)
      else
        z_guard (zb ((zup I 178 1 ((I 178 1) + (1 : Int32))) 178 1) 9) <|
        fc_Walker_goes_L55 nf v2 r9 v5 (v6 + (1 : Int32)) (zup (zup I 178 1 ((I 178 1) + (1 : Int32))) 179 ((zup I 178 1 ((I 178 1) + (1 : Int32))) 178 1).toNatClampNeg r9)
def fc_Walker_goes (I : zI) (a2 : Int32) (a3 : Int32) : Option (Int32 × zI) :=
  (fc_Walks_has (zup I 178 1 (0 : Int32)) a2).bind fun r1 =>
  if r1 = 0 then
    some ((0 : Int32), (zup I 178 1 (0 : Int32)))
  else
    z_guard (zb a2 10) <|
    z_guard (zb a2 10) <|
    fc_Walker_goes_L55
      100 a2 (((2 : Int32) * ((zup I 178 1 (0 : Int32)) 9 a2.toNatClampNeg)) + a3) ((zup (zup I 178 1 (0 : Int32)) 179 (0 : Int32).toNatClampNeg (((2 : Int32) * ((zup I 178 1 (0 : Int32)) 9 a2.toNatClampNeg)) + a3)) 10 a2.toNatClampNeg) (0 : Int32) (zup (zup I 178 1 (0 : Int32)) 179 (0 : Int32).toNatClampNeg (((2 : Int32) * ((zup I 178 1 (0 : Int32)) 9 a2.toNatClampNeg)) + a3))
set_option maxRecDepth 20000 in
theorem lt_fc_Walker_goes_L55 {res : (Int32 × zI)} : ∀ (nf : Nat) (v2 : Int32) (v4 : Int32) (v5 : Int32) (v6 : Int32) (I : zI), fc_Walker_goes_L55 nf v2 v4 v5 v6 I = some res → zG 4 ym_71 0 0 (some (.inl res.1)) (zCs, zCr, res.2) zCs.length 55 [(0, .inr (.inr (some 178))), (1, .inr (.inr (some 1))), (2, .inl v2), (4, .inl v4), (5, .inl v5), (6, .inl v6)] [] (zCs, zCr, I) 0 0 := by
  intro nf
  induction nf with
  | zero =>
    intro v2 v4 v5 v6 I h
    have h2 : none = some res := h
    cases h2
  | succ nf ih =>
    intro v2 v4 v5 v6 I h
    rw [fc_Walker_goes_L55] at h
    refine zg_iload dd_71_55 (j := 5) rfl ?_
    refine zg_iload dd_71_57 (j := 4) rfl ?_
    refine zg_icmp_ge (tgt := 120) dd_71_59 (by decide) (fun q6 => ?_) (fun q6 => ?_)
    · replace h := z_t h q6
      refine zg_iconst dd_71_120 kI_1 ?_
      obtain rfl := Option.some.inj h
      exact zg_zret dd_71_121 rfl zSt_b1.1
    · replace h := z_f h q6
      refine zg_aload_n dd_71_62 rfl (j := 1) rfl ?_
      refine zg_getR dd_71_63 zl_Walker_37 zCs_1 rfl zCr_1_0 ?_
      refine zg_iload dd_71_66 (j := 3) rfl ?_
      refine zg_aload_n dd_71_68 rfl (j := 1) rfl ?_
      refine zg_getR dd_71_69 zl_Walker_19 zCs_1 rfl zCr_1_1 ?_
      refine zg_getR dd_71_72 zl_Walker_41 zCs_7 rfl zCr_7_5 ?_
      refine zg_iload_n dd_71_75 rfl (j := 2) rfl ?_
      obtain ⟨g7, h⟩ := z_gd h
      refine zg_aald1 dd_71_76 zCs_12 g7 (zrR_C_12 g7) ?_
      refine zg_iload dd_71_77 (j := 5) rfl ?_
      obtain ⟨g8, h⟩ := z_gd h
      refine zg_iald dd_71_79 (zrS_C_12 g7) g8 ?_
      obtain ⟨r9, e10, h⟩ := z_bd h
      refine zg_invV_i (av := [.inl v4, .inl (I (13 + v2.toNatClampNeg) v6.toNatClampNeg)]) (st := []) (n := 2) dd_71_80 ca_51 zw_724 zw_640 zw_641 zCs_2 zcl_2 rfl (mt_fc_Ground_comesTo e10) rfl ⟨by decide +kernel, by decide⟩ (Nat.le_of_ble_eq_true rfl) ?_
      refine zg_istore dd_71_83 (Nat.le_of_ble_eq_true rfl) (lv' := [(4, .inl r9), (0, .inr (.inr (some 178))), (1, .inr (.inr (some 1))), (2, .inl v2), (5, .inl v5), (6, .inl v6)]) rfl ?_
      refine zg_iload dd_71_85 (j := 0) rfl ?_
      refine zg_iconst dd_71_87 kI_m1 ?_
      refine zg_icmp_ne (tgt := 93) dd_71_88 (by decide) (fun q11 => ?_) (fun q11 => ?_)
      · replace h := z_f h q11
        refine zg_aload_n dd_71_93 rfl (j := 1) rfl ?_
        refine zg_dup dd_71_94 rfl ?_
        refine zg_getI dd_71_95 zl_Walker_15 zCs_178 rfl ?_
        refine zg_iconst dd_71_98 kI_1 ?_
        refine zg_iadd dd_71_99 ?_
        refine zg_putI dd_71_100 zp_Walker_15 zCs_178 rfl (zSt_int _) ?_
        refine zg_aload_n dd_71_103 rfl (j := 1) rfl ?_
        refine zg_getR dd_71_104 zl_Walker_9 zCs_178 rfl zCr_178_0 ?_
        refine zg_aload_n dd_71_107 rfl (j := 1) rfl ?_
        refine zg_getI dd_71_108 zl_Walker_15 zCs_178 rfl ?_
        refine zg_iload dd_71_111 (j := 0) rfl ?_
        obtain ⟨g12, h⟩ := z_gd h
        refine zg_iast dd_71_113 zCs_179 g12 ?_
        refine zg_iinc dd_71_114 (j := 5) rfl (v := (v6 + (1 : Int32))) (by rw [kI_1]) (Nat.le_of_ble_eq_true rfl) (lv' := [(6, .inl (v6 + (1 : Int32))), (4, .inl r9), (0, .inr (.inr (some 178))), (1, .inr (.inr (some 1))), (2, .inl v2), (5, .inl v5)]) rfl ?_
        refine zg_goto (tgt := 55) dd_71_117 (by decide) ?_
        refine zg_sub [2, 3, 4, 1, 5, 0] rfl ?_
        exact ih _ _ _ _ _ h
      · replace h := z_t h q11
        refine zg_iconst dd_71_91 kI_0 ?_
        obtain rfl := Option.some.inj h
        exact zg_zret dd_71_92 rfl zSt_b0.1
set_option maxRecDepth 20000 in
theorem mt_fc_Walker_goes {I : zI} {a2 : Int32} {a3 : Int32} {res : (Int32 × zI)} (h : fc_Walker_goes I a2 a3 = some res) : zM 4 ym_71 [.inr (.inr (some 178)), .inr (.inr (some 1)), .inl a2, .inl a3] (zCs, zCr, I) (some (.inl res.1)) (zCs, zCr, res.2) 0 0 := by
  refine zM_of (by decide) (Nat.le_of_ble_eq_true rfl) (lv := [(0, .inr (.inr (some 178))), (1, .inr (.inr (some 1))), (2, .inl a2), (3, .inl a3)]) rfl ?_
  rw [fc_Walker_goes] at h
  refine zg_aload_n dd_71_0 rfl (j := 0) rfl ?_
  refine zg_iconst dd_71_1 kI_0 ?_
  refine zg_putI dd_71_2 zp_Walker_15 zCs_178 rfl (zSt_int _) ?_
  refine zg_aload_n dd_71_5 rfl (j := 1) rfl ?_
  refine zg_getR dd_71_6 zl_Walker_19 zCs_1 rfl zCr_1_1 ?_
  refine zg_iload_n dd_71_9 rfl (j := 2) rfl ?_
  obtain ⟨r1, e2, h⟩ := z_bd h
  refine zg_invV_i (av := [.inl a2]) (st := []) (n := 1) dd_71_10 ca_69 zw_723 zw_712 zw_713 zCs_7 zcl_8 rfl (mt_fc_Walks_has e2) rfl ⟨by decide +kernel, by decide⟩ (Nat.le_of_ble_eq_true rfl) ?_
  refine zg_if_ne (tgt := 18) dd_71_13 (by decide) (fun q3 => ?_) (fun q3 => ?_)
  · replace h := z_f h q3
    refine zg_iconst dd_71_18 kI_2 ?_
    refine zg_aload_n dd_71_19 rfl (j := 1) rfl ?_
    refine zg_getR dd_71_20 zl_Walker_19 zCs_1 rfl zCr_1_1 ?_
    refine zg_getR dd_71_23 zl_Walker_31 zCs_7 rfl zCr_7_2 ?_
    refine zg_iload_n dd_71_26 rfl (j := 2) rfl ?_
    obtain ⟨g4, h⟩ := z_gd h
    refine zg_iald dd_71_27 zCs_9 g4 ?_
    refine zg_imul dd_71_28 ?_
    refine zg_iload_n dd_71_29 rfl (j := 3) rfl ?_
    refine zg_iadd dd_71_30 ?_
    refine zg_istore dd_71_31 (Nat.le_of_ble_eq_true rfl) (lv' := [(4, .inl (((2 : Int32) * ((zup I 178 1 (0 : Int32)) 9 a2.toNatClampNeg)) + a3)), (0, .inr (.inr (some 178))), (1, .inr (.inr (some 1))), (2, .inl a2), (3, .inl a3)]) rfl ?_
    refine zg_aload_n dd_71_33 rfl (j := 1) rfl ?_
    refine zg_getR dd_71_34 zl_Walker_9 zCs_178 rfl zCr_178_0 ?_
    refine zg_iconst dd_71_37 kI_0 ?_
    refine zg_iload dd_71_38 (j := 0) rfl ?_
    refine zg_iast dd_71_40 zCs_179 (by decide) ?_
    refine zg_aload_n dd_71_41 rfl (j := 2) rfl ?_
    refine zg_getR dd_71_42 zl_Walker_19 zCs_1 rfl zCr_1_1 ?_
    refine zg_getR dd_71_45 zl_Walker_34 zCs_7 rfl zCr_7_3 ?_
    refine zg_iload_n dd_71_48 rfl (j := 3) rfl ?_
    obtain ⟨g5, h⟩ := z_gd h
    refine zg_iald dd_71_49 zCs_10 g5 ?_
    refine zg_istore dd_71_50 (Nat.le_of_ble_eq_true rfl) (lv' := [(5, .inl ((zup (zup I 178 1 (0 : Int32)) 179 (0 : Int32).toNatClampNeg (((2 : Int32) * ((zup I 178 1 (0 : Int32)) 9 a2.toNatClampNeg)) + a3)) 10 a2.toNatClampNeg)), (4, .inl (((2 : Int32) * ((zup I 178 1 (0 : Int32)) 9 a2.toNatClampNeg)) + a3)), (0, .inr (.inr (some 178))), (1, .inr (.inr (some 1))), (2, .inl a2), (3, .inl a3)]) rfl ?_
    refine zg_iconst dd_71_52 kI_0 ?_
    refine zg_istore dd_71_53 (Nat.le_of_ble_eq_true rfl) (lv' := [(6, .inl (0 : Int32)), (5, .inl ((zup (zup I 178 1 (0 : Int32)) 179 (0 : Int32).toNatClampNeg (((2 : Int32) * ((zup I 178 1 (0 : Int32)) 9 a2.toNatClampNeg)) + a3)) 10 a2.toNatClampNeg)), (4, .inl (((2 : Int32) * ((zup I 178 1 (0 : Int32)) 9 a2.toNatClampNeg)) + a3)), (0, .inr (.inr (some 178))), (1, .inr (.inr (some 1))), (2, .inl a2), (3, .inl a3)]) rfl ?_
    refine zg_sub [3, 4, 5, 2, 1, 0] rfl ?_
    refine lt_fc_Walker_goes_L55  _ _ _ _ _ _ h
  · replace h := z_t h q3
    refine zg_iconst dd_71_16 kI_0 ?_
    obtain rfl := Option.some.inj h
    exact zg_zret dd_71_17 rfl zSt_b0.1
/-! TurnedLand$Walker.end[178] -/
def fc_Walker_end (I : zI) : Option Int32 :=
  z_guard (zb (I 178 1) 9) <|
  some (I 179 (I 178 1).toNatClampNeg)
set_option maxRecDepth 20000 in
theorem mt_fc_Walker_end {I : zI} {res : Int32} (h : fc_Walker_end I = some res) : zM 1 ym_72 [.inr (.inr (some 178))] (zCs, zCr, I) (some (.inl res)) (zCs, zCr, I) 0 0 := by
  refine zM_of (by decide) (Nat.le_of_ble_eq_true rfl) (lv := [(0, .inr (.inr (some 178)))]) rfl ?_
  rw [fc_Walker_end] at h
  refine zg_aload_n dd_72_0 rfl (j := 0) rfl ?_
  refine zg_getR dd_72_1 zl_Walker_9 zCs_178 rfl zCr_178_0 ?_
  refine zg_aload_n dd_72_4 rfl (j := 0) rfl ?_
  refine zg_getI dd_72_5 zl_Walker_15 zCs_178 rfl ?_
  obtain ⟨g1, h⟩ := z_gd h
  refine zg_iald dd_72_8 zCs_179 g1 ?_
  obtain rfl := Option.some.inj h
  exact zg_iret dd_72_9 rfl
/-! TurnedLand$Walker.hours[178, 1, None] -/
def fc_Walker_hours_L5 : Nat → Int32 → Int32 → Int32 → zI → Option (Int32 × zI)
  | 0, _, _, _, _ => none
  | nf + 1, v2, v3, v4, I =>
    if (I 178 1) ≤ v4 then
      some (v3, I)
    else
      z_guard (zb v4 9) <|
      z_guard (zb v2 10) <|
      z_guard (zb v4 8) <|
      (fc_World_hours I (I 179 v4.toNatClampNeg) (I (13 + v2.toNatClampNeg) v4.toNatClampNeg)).bind fun r5 =>
      fc_Walker_hours_L5 nf v2 (v3 + r5.1) (v4 + (1 : Int32)) r5.2
def fc_Walker_hours (I : zI) (a2 : Int32) : Option (Int32 × zI) :=
  fc_Walker_hours_L5
    100 a2 (0 : Int32) (0 : Int32) I
set_option maxRecDepth 20000 in
theorem lt_fc_Walker_hours_L5 {res : (Int32 × zI)} : ∀ (nf : Nat) (v2 : Int32) (v3 : Int32) (v4 : Int32) (I : zI), fc_Walker_hours_L5 nf v2 v3 v4 I = some res → zG 5 ym_73 0 0 (some (.inl res.1)) (zCs, zCr, res.2) zCs.length 5 [(0, .inr (.inr (some 178))), (1, .inr (.inr (some 1))), (2, .inl v2), (3, .inl v3), (4, .inl v4)] [] (zCs, zCr, I) 0 0 := by
  intro nf
  induction nf with
  | zero =>
    intro v2 v3 v4 I h
    have h2 : none = some res := h
    cases h2
  | succ nf ih =>
    intro v2 v3 v4 I h
    rw [fc_Walker_hours_L5] at h
    refine zg_iload dd_73_5 (j := 4) rfl ?_
    refine zg_aload_n dd_73_7 rfl (j := 0) rfl ?_
    refine zg_getI dd_73_8 zl_Walker_15 zCs_178 rfl ?_
    refine zg_icmp_ge (tgt := 46) dd_73_11 (by decide) (fun q1 => ?_) (fun q1 => ?_)
    · replace h := z_t h q1
      refine zg_iload_n dd_73_46 rfl (j := 3) rfl ?_
      obtain rfl := Option.some.inj h
      exact zg_iret dd_73_47 rfl
    · replace h := z_f h q1
      refine zg_iload_n dd_73_14 rfl (j := 3) rfl ?_
      refine zg_aload_n dd_73_15 rfl (j := 1) rfl ?_
      refine zg_aload_n dd_73_16 rfl (j := 0) rfl ?_
      refine zg_getR dd_73_17 zl_Walker_9 zCs_178 rfl zCr_178_0 ?_
      refine zg_iload dd_73_20 (j := 4) rfl ?_
      obtain ⟨g2, h⟩ := z_gd h
      refine zg_iald dd_73_22 zCs_179 g2 ?_
      refine zg_aload_n dd_73_23 rfl (j := 1) rfl ?_
      refine zg_getR dd_73_24 zl_Walker_19 zCs_1 rfl zCr_1_1 ?_
      refine zg_getR dd_73_27 zl_Walker_41 zCs_7 rfl zCr_7_5 ?_
      refine zg_iload_n dd_73_30 rfl (j := 2) rfl ?_
      obtain ⟨g3, h⟩ := z_gd h
      refine zg_aald1 dd_73_31 zCs_12 g3 (zrR_C_12 g3) ?_
      refine zg_iload dd_73_32 (j := 4) rfl ?_
      obtain ⟨g4, h⟩ := z_gd h
      refine zg_iald dd_73_34 (zrS_C_12 g3) g4 ?_
      obtain ⟨r5, e6, h⟩ := z_bd h
      refine zg_invV_i (av := [.inl (I 179 v4.toNatClampNeg), .inl (I (13 + v2.toNatClampNeg) v4.toNatClampNeg)]) (st := [.inl v3]) (n := 2) dd_73_35 ca_52 zw_733 zw_645 zw_646 zCs_1 zcl_10 rfl (mt_fc_World_hours e6) rfl ⟨by decide +kernel, by decide⟩ (Nat.le_of_ble_eq_true rfl) ?_
      refine zg_iadd dd_73_38 ?_
      refine zg_istore_n dd_73_39 rfl (Nat.le_of_ble_eq_true rfl) (lv' := [(3, .inl (v3 + r5.1)), (0, .inr (.inr (some 178))), (1, .inr (.inr (some 1))), (2, .inl v2), (4, .inl v4)]) rfl ?_
      refine zg_iinc dd_73_40 (j := 4) rfl (v := (v4 + (1 : Int32))) (by rw [kI_1]) (Nat.le_of_ble_eq_true rfl) (lv' := [(4, .inl (v4 + (1 : Int32))), (3, .inl (v3 + r5.1)), (0, .inr (.inr (some 178))), (1, .inr (.inr (some 1))), (2, .inl v2)]) rfl ?_
      refine zg_goto (tgt := 5) dd_73_43 (by decide) ?_
      refine zg_sub [2, 3, 4, 1, 0] rfl ?_
      exact ih _ _ _ _ h
set_option maxRecDepth 20000 in
theorem mt_fc_Walker_hours {I : zI} {a2 : Int32} {res : (Int32 × zI)} (h : fc_Walker_hours I a2 = some res) : zM 5 ym_73 [.inr (.inr (some 178)), .inr (.inr (some 1)), .inl a2] (zCs, zCr, I) (some (.inl res.1)) (zCs, zCr, res.2) 0 0 := by
  refine zM_of (by decide) (Nat.le_of_ble_eq_true rfl) (lv := [(0, .inr (.inr (some 178))), (1, .inr (.inr (some 1))), (2, .inl a2)]) rfl ?_
  rw [fc_Walker_hours] at h
  refine zg_iconst dd_73_0 kI_0 ?_
  refine zg_istore_n dd_73_1 rfl (Nat.le_of_ble_eq_true rfl) (lv' := [(3, .inl (0 : Int32)), (0, .inr (.inr (some 178))), (1, .inr (.inr (some 1))), (2, .inl a2)]) rfl ?_
  refine zg_iconst dd_73_2 kI_0 ?_
  refine zg_istore dd_73_3 (Nat.le_of_ble_eq_true rfl) (lv' := [(4, .inl (0 : Int32)), (3, .inl (0 : Int32)), (0, .inr (.inr (some 178))), (1, .inr (.inr (some 1))), (2, .inl a2)]) rfl ?_
  refine zg_sub [2, 3, 4, 1, 0] rfl ?_
  refine lt_fc_Walker_hours_L5  _ _ _ _ _ h
/-! TurnedLand$Walker.seen[178] -/
def fc_Walker_seen_L4 (I : zI) : Nat → Int32 → Int32 → Option Int32
  | 0, _, _ => none
  | nf + 1, v1, v2 =>
    if (I 178 1) < v2 then
      some v1
    else
      z_guard (zb v2 9) <|
      fc_Walker_seen_L4 I nf (v1 ||| ((1 : Int32) <<< (((I 179 v2.toNatClampNeg) / (2 : Int32)) &&& 31))) (v2 + (1 : Int32))
def fc_Walker_seen (I : zI) : Option Int32 :=
  fc_Walker_seen_L4 I
    100 (0 : Int32) (0 : Int32)
set_option maxRecDepth 20000 in
theorem lt_fc_Walker_seen_L4 {res : Int32} {I : zI} : ∀ (nf : Nat) (v1 : Int32) (v2 : Int32), fc_Walker_seen_L4 I nf v1 v2 = some res → zG 1 ym_74 0 0 (some (.inl res)) (zCs, zCr, I) zCs.length 4 [(0, .inr (.inr (some 178))), (1, .inl v1), (2, .inl v2)] [] (zCs, zCr, I) 0 0 := by
  intro nf
  induction nf with
  | zero =>
    intro v1 v2 h
    have h2 : none = some res := h
    cases h2
  | succ nf ih =>
    intro v1 v2 h
    rw [fc_Walker_seen_L4] at h
    refine zg_iload_n dd_74_4 rfl (j := 2) rfl ?_
    refine zg_aload_n dd_74_5 rfl (j := 0) rfl ?_
    refine zg_getI dd_74_6 zl_Walker_15 zCs_178 rfl ?_
    refine zg_icmp_gt (tgt := 31) dd_74_9 (by decide) (fun q1 => ?_) (fun q1 => ?_)
    · replace h := z_t h q1
      refine zg_iload_n dd_74_31 rfl (j := 1) rfl ?_
      obtain rfl := Option.some.inj h
      exact zg_iret dd_74_32 rfl
    · replace h := z_f h q1
      refine zg_iload_n dd_74_12 rfl (j := 1) rfl ?_
      refine zg_iconst dd_74_13 kI_1 ?_
      refine zg_aload_n dd_74_14 rfl (j := 0) rfl ?_
      refine zg_getR dd_74_15 zl_Walker_9 zCs_178 rfl zCr_178_0 ?_
      refine zg_iload_n dd_74_18 rfl (j := 2) rfl ?_
      obtain ⟨g2, h⟩ := z_gd h
      refine zg_iald dd_74_19 zCs_179 g2 ?_
      refine zg_iconst dd_74_20 kI_2 ?_
      refine zg_idiv dd_74_21 (by decide) ?_
      refine zg_ishl dd_74_22 ?_
      refine zg_ior dd_74_23 ?_
      refine zg_istore_n dd_74_24 rfl (Nat.le_of_ble_eq_true rfl) (lv' := [(1, .inl (v1 ||| ((1 : Int32) <<< (((I 179 v2.toNatClampNeg) / (2 : Int32)) &&& 31)))), (0, .inr (.inr (some 178))), (2, .inl v2)]) rfl ?_
      refine zg_iinc dd_74_25 (j := 2) rfl (v := (v2 + (1 : Int32))) (by rw [kI_1]) (Nat.le_of_ble_eq_true rfl) (lv' := [(2, .inl (v2 + (1 : Int32))), (1, .inl (v1 ||| ((1 : Int32) <<< (((I 179 v2.toNatClampNeg) / (2 : Int32)) &&& 31)))), (0, .inr (.inr (some 178)))]) rfl ?_
      refine zg_goto (tgt := 4) dd_74_28 (by decide) ?_
      refine zg_sub [2, 1, 0] rfl ?_
      exact ih _ _ h
set_option maxRecDepth 20000 in
theorem mt_fc_Walker_seen {I : zI} {res : Int32} (h : fc_Walker_seen I = some res) : zM 1 ym_74 [.inr (.inr (some 178))] (zCs, zCr, I) (some (.inl res)) (zCs, zCr, I) 0 0 := by
  refine zM_of (by decide) (Nat.le_of_ble_eq_true rfl) (lv := [(0, .inr (.inr (some 178)))]) rfl ?_
  rw [fc_Walker_seen] at h
  refine zg_iconst dd_74_0 kI_0 ?_
  refine zg_istore_n dd_74_1 rfl (Nat.le_of_ble_eq_true rfl) (lv' := [(1, .inl (0 : Int32)), (0, .inr (.inr (some 178)))]) rfl ?_
  refine zg_iconst dd_74_2 kI_0 ?_
  refine zg_istore_n dd_74_3 rfl (Nat.le_of_ble_eq_true rfl) (lv' := [(2, .inl (0 : Int32)), (1, .inl (0 : Int32)), (0, .inr (.inr (some 178)))]) rfl ?_
  refine zg_sub [2, 1, 0] rfl ?_
  refine lt_fc_Walker_seen_L4  _ _ _ h
/-! TurnedLand$Walker.isSo[178, 1, None] -/
def fc_Walker_isSo (I : zI) (a2 : Int32) : Option (Int32 × zI) :=
  (fc_Walker_goes I a2 (0 : Int32)).bind fun r1 =>
  if r1.1 = 0 then
    some ((0 : Int32), r1.2)
  else
    (fc_Walker_end r1.2).bind fun r4 =>
    z_guard (zb a2 10) <|
    z_guard (zb a2 10) <|
    if (r1.2 8 a2.toNatClampNeg) = (1 : Int32) then
      if (r4 / (2 : Int32)) = ((r1.2 179 (0 : Int32).toNatClampNeg) / (2 : Int32)) then
        some ((1 : Int32), r1.2)
      else
        some ((0 : Int32), r1.2)
    else if (r1.2 8 a2.toNatClampNeg) = (2 : Int32) then
      if r4 = (r1.2 179 (0 : Int32).toNatClampNeg) then
        some ((1 : Int32), r1.2)
      else
        some ((0 : Int32), r1.2)
    else if (r1.2 8 a2.toNatClampNeg) = (3 : Int32) then
      if r4 = ((r1.2 179 (0 : Int32).toNatClampNeg) + (1 : Int32)) then
        some ((1 : Int32), r1.2)
      else
        some ((0 : Int32), r1.2)
    else if (r1.2 8 a2.toNatClampNeg) = (4 : Int32) then
      (fc_Walker_goes r1.2 (a2 + (1 : Int32)) (0 : Int32)).bind fun r15 =>
      if r15.1 = 0 then
        some ((0 : Int32), r15.2)
      else
        (fc_Walker_end r15.2).bind fun r18 =>
        if r18 = r4 then
          some ((1 : Int32), r15.2)
        else
          some ((0 : Int32), r15.2)
    else if (r1.2 8 a2.toNatClampNeg) = (5 : Int32) then
      if (r1.2 11 a2.toNatClampNeg) = (-1 : Int32) then
        some ((1 : Int32), r1.2)
      else
        (fc_Walker_hours r1.2 a2).bind fun r23 =>
        if r23.1 = (r1.2 11 a2.toNatClampNeg) then
          some ((1 : Int32), r23.2)
        else
          some ((0 : Int32), r23.2)
    else if (r1.2 8 a2.toNatClampNeg) = (6 : Int32) then
      if r4 = (r1.2 179 (0 : Int32).toNatClampNeg) then
        (fc_Walker_seen r1.2).bind fun r28 =>
        if r28 = (((1 : Int32) <<< ((r1.2 2 0) &&& 31)) - (1 : Int32)) then
          some ((1 : Int32), r1.2)
        else
          some ((0 : Int32), r1.2)
      else
        some ((0 : Int32), r1.2)
    else
      some ((1 : Int32), r1.2)
set_option maxRecDepth 20000 in
theorem mt_fc_Walker_isSo {I : zI} {a2 : Int32} {res : (Int32 × zI)} (h : fc_Walker_isSo I a2 = some res) : zM 6 ym_70 [.inr (.inr (some 178)), .inr (.inr (some 1)), .inl a2] (zCs, zCr, I) (some (.inl res.1)) (zCs, zCr, res.2) 0 0 := by
  refine zM_of (by decide) (Nat.le_of_ble_eq_true rfl) (lv := [(0, .inr (.inr (some 178))), (1, .inr (.inr (some 1))), (2, .inl a2)]) rfl ?_
  rw [fc_Walker_isSo] at h
  refine zg_aload_n dd_70_0 rfl (j := 0) rfl ?_
  refine zg_aload_n dd_70_1 rfl (j := 1) rfl ?_
  refine zg_iload_n dd_70_2 rfl (j := 2) rfl ?_
  refine zg_iconst dd_70_3 kI_0 ?_
  obtain ⟨r1, e2, h⟩ := z_bd h
  refine zg_invV_i (av := [.inr (.inr (some 1)), .inl a2, .inl (0 : Int32)]) (st := []) (n := 3) dd_70_4 ca_71 zw_719 zw_720 zw_721 zCs_178 zcl_7 rfl (mt_fc_Walker_goes e2) rfl ⟨by decide +kernel, by decide⟩ (Nat.le_of_ble_eq_true rfl) ?_
  refine zg_if_ne (tgt := 12) dd_70_7 (by decide) (fun q3 => ?_) (fun q3 => ?_)
  · replace h := z_f h q3
    refine zg_aload_n dd_70_12 rfl (j := 0) rfl ?_
    refine zg_getR dd_70_13 zl_Walker_9 zCs_178 rfl zCr_178_0 ?_
    refine zg_iconst dd_70_16 kI_0 ?_
    refine zg_iald dd_70_17 zCs_179 (by decide) ?_
    refine zg_istore_n dd_70_18 rfl (Nat.le_of_ble_eq_true rfl) (lv' := [(3, .inl (r1.2 179 (0 : Int32).toNatClampNeg)), (0, .inr (.inr (some 178))), (1, .inr (.inr (some 1))), (2, .inl a2)]) rfl ?_
    refine zg_aload_n dd_70_19 rfl (j := 1) rfl ?_
    obtain ⟨r4, e5, h⟩ := z_bd h
    refine zg_invV_i (av := []) (st := []) (n := 0) dd_70_20 ca_72 zw_725 zw_726 zw_727 zCs_178 zcl_7 rfl (mt_fc_Walker_end e5) rfl ⟨by decide +kernel, by decide⟩ (Nat.le_of_ble_eq_true rfl) ?_
    refine zg_istore dd_70_23 (Nat.le_of_ble_eq_true rfl) (lv' := [(4, .inl r4), (3, .inl (r1.2 179 (0 : Int32).toNatClampNeg)), (0, .inr (.inr (some 178))), (1, .inr (.inr (some 1))), (2, .inl a2)]) rfl ?_
    refine zg_aload_n dd_70_25 rfl (j := 3) rfl ?_
    refine zg_getR dd_70_26 zl_Walker_19 zCs_1 rfl zCr_1_1 ?_
    refine zg_getR dd_70_29 zl_Walker_65 zCs_7 rfl zCr_7_4 ?_
    refine zg_iload_n dd_70_32 rfl (j := 4) rfl ?_
    obtain ⟨g6, h⟩ := z_gd h
    refine zg_iald dd_70_33 zCs_11 g6 ?_
    refine zg_istore dd_70_34 (Nat.le_of_ble_eq_true rfl) (lv' := [(5, .inl (r1.2 11 a2.toNatClampNeg)), (4, .inl r4), (3, .inl (r1.2 179 (0 : Int32).toNatClampNeg)), (0, .inr (.inr (some 178))), (1, .inr (.inr (some 1))), (2, .inl a2)]) rfl ?_
    refine zg_aload_n dd_70_36 rfl (j := 4) rfl ?_
    refine zg_getR dd_70_37 zl_Walker_19 zCs_1 rfl zCr_1_1 ?_
    refine zg_getR dd_70_40 zl_Walker_68 zCs_7 rfl zCr_7_1 ?_
    refine zg_iload_n dd_70_43 rfl (j := 5) rfl ?_
    obtain ⟨g7, h⟩ := z_gd h
    refine zg_iald dd_70_44 zCs_8 g7 ?_
    rcases z_if h with ⟨q8, h⟩ | ⟨q8, h⟩
    · refine zg_tabIn (tgt := 84) 39 dd_70_45 q8 (by decide) (by decide) (by decide) ?_
      refine zg_iload dd_70_84 (j := 1) rfl ?_
      refine zg_iconst dd_70_86 kI_2 ?_
      refine zg_idiv dd_70_87 (by decide) ?_
      refine zg_iload_n dd_70_88 rfl (j := 2) rfl ?_
      refine zg_iconst dd_70_89 kI_2 ?_
      refine zg_idiv dd_70_90 (by decide) ?_
      refine zg_icmp_ne (tgt := 98) dd_70_91 (by decide) (fun q9 => ?_) (fun q9 => ?_)
      · replace h := z_f h q9
        refine zg_iconst dd_70_98 kI_0 ?_
        obtain rfl := Option.some.inj h
        exact zg_zret dd_70_99 rfl zSt_b0.1
      · replace h := z_t h q9
        refine zg_iconst dd_70_94 kI_1 ?_
        refine zg_goto (tgt := 99) dd_70_95 (by decide) ?_
        obtain rfl := Option.some.inj h
        exact zg_zret dd_70_99 rfl zSt_b1.1
    rcases z_if h with ⟨q10, h⟩ | ⟨q10, h⟩
    · refine zg_tabIn (tgt := 100) 55 dd_70_45 q10 (by decide) (by decide) (by decide) ?_
      refine zg_iload dd_70_100 (j := 1) rfl ?_
      refine zg_iload_n dd_70_102 rfl (j := 2) rfl ?_
      refine zg_icmp_ne (tgt := 110) dd_70_103 (by decide) (fun q11 => ?_) (fun q11 => ?_)
      · replace h := z_f h q11
        refine zg_iconst dd_70_110 kI_0 ?_
        obtain rfl := Option.some.inj h
        exact zg_zret dd_70_111 rfl zSt_b0.1
      · replace h := z_t h q11
        refine zg_iconst dd_70_106 kI_1 ?_
        refine zg_goto (tgt := 111) dd_70_107 (by decide) ?_
        obtain rfl := Option.some.inj h
        exact zg_zret dd_70_111 rfl zSt_b1.1
    rcases z_if h with ⟨q12, h⟩ | ⟨q12, h⟩
    · refine zg_tabIn (tgt := 112) 67 dd_70_45 q12 (by decide) (by decide) (by decide) ?_
      refine zg_iload dd_70_112 (j := 1) rfl ?_
      refine zg_iload_n dd_70_114 rfl (j := 2) rfl ?_
      refine zg_iconst dd_70_115 kI_1 ?_
      refine zg_iadd dd_70_116 ?_
      refine zg_icmp_ne (tgt := 124) dd_70_117 (by decide) (fun q13 => ?_) (fun q13 => ?_)
      · replace h := z_f h q13
        refine zg_iconst dd_70_124 kI_0 ?_
        obtain rfl := Option.some.inj h
        exact zg_zret dd_70_125 rfl zSt_b0.1
      · replace h := z_t h q13
        refine zg_iconst dd_70_120 kI_1 ?_
        refine zg_goto (tgt := 125) dd_70_121 (by decide) ?_
        obtain rfl := Option.some.inj h
        exact zg_zret dd_70_125 rfl zSt_b1.1
    rcases z_if h with ⟨q14, h⟩ | ⟨q14, h⟩
    · refine zg_tabIn (tgt := 126) 81 dd_70_45 q14 (by decide) (by decide) (by decide) ?_
      refine zg_aload_n dd_70_126 rfl (j := 3) rfl ?_
      refine zg_aload_n dd_70_127 rfl (j := 4) rfl ?_
      refine zg_iload_n dd_70_128 rfl (j := 5) rfl ?_
      refine zg_iconst dd_70_129 kI_1 ?_
      refine zg_iadd dd_70_130 ?_
      refine zg_iconst dd_70_131 kI_0 ?_
      obtain ⟨r15, e16, h⟩ := z_bd h
      refine zg_invV_i (av := [.inr (.inr (some 1)), .inl (a2 + (1 : Int32)), .inl (0 : Int32)]) (st := []) (n := 3) dd_70_132 ca_71 zw_719 zw_720 zw_721 zCs_178 zcl_7 rfl (mt_fc_Walker_goes e16) rfl ⟨by decide +kernel, by decide⟩ (Nat.le_of_ble_eq_true rfl) ?_
      refine zg_if_eq (tgt := 151) dd_70_135 (by decide) (fun q17 => ?_) (fun q17 => ?_)
      · replace h := z_t h q17
        refine zg_iconst dd_70_151 kI_0 ?_
        obtain rfl := Option.some.inj h
        exact zg_zret dd_70_152 rfl zSt_b0.1
      · replace h := z_f h q17
        refine zg_aload_n dd_70_138 rfl (j := 3) rfl ?_
        obtain ⟨r18, e19, h⟩ := z_bd h
        refine zg_invV_i (av := []) (st := []) (n := 0) dd_70_139 ca_72 zw_725 zw_726 zw_727 zCs_178 zcl_7 rfl (mt_fc_Walker_end e19) rfl ⟨by decide +kernel, by decide⟩ (Nat.le_of_ble_eq_true rfl) ?_
        refine zg_iload dd_70_142 (j := 1) rfl ?_
        refine zg_icmp_ne (tgt := 151) dd_70_144 (by decide) (fun q20 => ?_) (fun q20 => ?_)
        · replace h := z_f h q20
          refine zg_iconst dd_70_151 kI_0 ?_
          obtain rfl := Option.some.inj h
          exact zg_zret dd_70_152 rfl zSt_b0.1
        · replace h := z_t h q20
          refine zg_iconst dd_70_147 kI_1 ?_
          refine zg_goto (tgt := 152) dd_70_148 (by decide) ?_
          obtain rfl := Option.some.inj h
          exact zg_zret dd_70_152 rfl zSt_b1.1
    rcases z_if h with ⟨q21, h⟩ | ⟨q21, h⟩
    · refine zg_tabIn (tgt := 153) 108 dd_70_45 q21 (by decide) (by decide) (by decide) ?_
      refine zg_iload dd_70_153 (j := 0) rfl ?_
      refine zg_iconst dd_70_155 kI_m1 ?_
      refine zg_icmp_eq (tgt := 170) dd_70_156 (by decide) (fun q22 => ?_) (fun q22 => ?_)
      · replace h := z_t h q22
        refine zg_iconst dd_70_170 kI_1 ?_
        refine zg_goto (tgt := 175) dd_70_171 (by decide) ?_
        obtain rfl := Option.some.inj h
        exact zg_zret dd_70_175 rfl zSt_b1.1
      · replace h := z_f h q22
        refine zg_aload_n dd_70_159 rfl (j := 3) rfl ?_
        refine zg_aload_n dd_70_160 rfl (j := 4) rfl ?_
        refine zg_iload_n dd_70_161 rfl (j := 5) rfl ?_
        obtain ⟨r23, e24, h⟩ := z_bd h
        refine zg_invV_i (av := [.inr (.inr (some 1)), .inl a2]) (st := []) (n := 2) dd_70_162 ca_73 zw_729 zw_730 zw_731 zCs_178 zcl_7 rfl (mt_fc_Walker_hours e24) rfl ⟨by decide +kernel, by decide⟩ (Nat.le_of_ble_eq_true rfl) ?_
        refine zg_iload dd_70_165 (j := 0) rfl ?_
        refine zg_icmp_ne (tgt := 174) dd_70_167 (by decide) (fun q25 => ?_) (fun q25 => ?_)
        · replace h := z_f h q25
          refine zg_iconst dd_70_174 kI_0 ?_
          obtain rfl := Option.some.inj h
          exact zg_zret dd_70_175 rfl zSt_b0.1
        · replace h := z_t h q25
          refine zg_iconst dd_70_170 kI_1 ?_
          refine zg_goto (tgt := 175) dd_70_171 (by decide) ?_
          obtain rfl := Option.some.inj h
          exact zg_zret dd_70_175 rfl zSt_b1.1
    rcases z_if h with ⟨q26, h⟩ | ⟨q26, h⟩
    · refine zg_tabIn (tgt := 176) 131 dd_70_45 q26 (by decide) (by decide) (by decide) ?_
      refine zg_iload dd_70_176 (j := 1) rfl ?_
      refine zg_iload_n dd_70_178 rfl (j := 2) rfl ?_
      refine zg_icmp_ne (tgt := 204) dd_70_179 (by decide) (fun q27 => ?_) (fun q27 => ?_)
      · replace h := z_f h q27
        refine zg_iconst dd_70_204 kI_0 ?_
        obtain rfl := Option.some.inj h
        exact zg_zret dd_70_205 rfl zSt_b0.1
      · replace h := z_t h q27
        refine zg_aload_n dd_70_182 rfl (j := 3) rfl ?_
        obtain ⟨r28, e29, h⟩ := z_bd h
        refine zg_invV_i (av := []) (st := []) (n := 0) dd_70_183 ca_74 zw_734 zw_736 zv_20 zCs_178 zcl_7 rfl (mt_fc_Walker_seen e29) rfl ⟨by decide +kernel, by decide⟩ (Nat.le_of_ble_eq_true rfl) ?_
        refine zg_iconst dd_70_186 kI_1 ?_
        refine zg_aload_n dd_70_187 rfl (j := 4) rfl ?_
        refine zg_getR dd_70_188 zl_Walker_37 zCs_1 rfl zCr_1_0 ?_
        refine zg_getI dd_70_191 zl_Walker_77 zCs_2 rfl ?_
        refine zg_ishl dd_70_194 ?_
        refine zg_iconst dd_70_195 kI_1 ?_
        refine zg_isub dd_70_196 ?_
        refine zg_icmp_ne (tgt := 204) dd_70_197 (by decide) (fun q30 => ?_) (fun q30 => ?_)
        · replace h := z_f h q30
          refine zg_iconst dd_70_204 kI_0 ?_
          obtain rfl := Option.some.inj h
          exact zg_zret dd_70_205 rfl zSt_b0.1
        · replace h := z_t h q30
          refine zg_iconst dd_70_200 kI_1 ?_
          refine zg_goto (tgt := 205) dd_70_201 (by decide) ?_
          obtain rfl := Option.some.inj h
          exact zg_zret dd_70_205 rfl zSt_b1.1
    refine zg_tabOut (tgt := 206) [(1 : Int32), (2 : Int32), (3 : Int32), (4 : Int32), (5 : Int32), (6 : Int32)] dd_70_45 (by decide +kernel) (by simp only [List.mem_cons, List.not_mem_nil, or_false]; rintro _ (rfl | rfl | rfl | rfl | rfl | rfl) <;> assumption) (by decide) ?_
    refine zg_iconst dd_70_206 kI_1 ?_
    obtain rfl := Option.some.inj h
    exact zg_zret dd_70_207 rfl zSt_b1.1
  · replace h := z_t h q3
    refine zg_iconst dd_70_10 kI_0 ?_
    obtain rfl := Option.some.inj h
    exact zg_zret dd_70_11 rfl zSt_b0.1
/-! TurnedLand.walkIs(0, None, None) -/
def fc_T_walkIs (I : zI) (a1 : Int32) (a2 : Int32) : Option (Int32 × zI) :=
  (fc_Walks_has I a1).bind fun r1 =>
  if r1 = 0 then
    (fc_T_refuse I (1 : Int32)).bind fun r18 =>
    some (r18.1, r18.2)
  else
    if a2 = (0 : Int32) then
      z_guard (zb a1 10) <|
      some ((I 8 a1.toNatClampNeg), I)
    else if a2 = (1 : Int32) then
      z_guard (zb a1 10) <|
      some ((I 9 a1.toNatClampNeg), I)
    else if a2 = (2 : Int32) then
      z_guard (zb a1 10) <|
      some ((I 10 a1.toNatClampNeg), I)
    else if a2 = (3 : Int32) then
      z_guard (zb a1 10) <|
      some ((I 11 a1.toNatClampNeg), I)
    else if a2 = (4 : Int32) then
      (fc_Walker_isSo I a1).bind fun r13 =>
      if r13.1 = 0 then
        some ((0 : Int32), r13.2)
      else
        some ((1 : Int32), r13.2)
    else
      (fc_T_refuse I (1 : Int32)).bind fun r16 =>
      some (r16.1, r16.2)
set_option maxRecDepth 20000 in
theorem mt_fc_T_walkIs {I : zI} {a1 : Int32} {a2 : Int32} {res : (Int32 × zI)} (h : fc_T_walkIs I a1 a2 = some res) : zM 7 ym_68 [.inr (.inr (some 0)), .inl a1, .inl a2] (zCs, zCr, I) (some (.inl res.1)) (zCs, zCr, res.2) 0 0 := by
  refine zM_of (by decide) (Nat.le_of_ble_eq_true rfl) (lv := [(0, .inr (.inr (some 0))), (1, .inl a1), (2, .inl a2)]) rfl ?_
  rw [fc_T_walkIs] at h
  refine zg_aload_n dd_68_0 rfl (j := 0) rfl ?_
  refine zg_getR dd_68_1 zl_T_12 zCs_0 rfl zCr_0_0 ?_
  refine zg_getR dd_68_4 zl_T_199 zCs_1 rfl zCr_1_1 ?_
  refine zg_astore_n dd_68_7 rfl (Nat.le_of_ble_eq_true rfl) (lv' := [(3, .inr (.inr (some 7))), (0, .inr (.inr (some 0))), (1, .inl a1), (2, .inl a2)]) rfl ?_
  refine zg_aload_n dd_68_8 rfl (j := 0) rfl ?_
  refine zg_iload_n dd_68_9 rfl (j := 2) rfl ?_
  obtain ⟨r1, e2, h⟩ := z_bd h
  refine zg_invV_i (av := [.inl a1]) (st := []) (n := 1) dd_68_10 ca_69 zw_711 zw_712 zw_713 zCs_7 zcl_8 rfl (mt_fc_Walks_has e2) rfl ⟨by decide +kernel, by decide⟩ (Nat.le_of_ble_eq_true rfl) ?_
  refine zg_if_ne (tgt := 22) dd_68_13 (by decide) (fun q3 => ?_) (fun q3 => ?_)
  · replace h := z_f h q3
    refine zg_iload_n dd_68_22 rfl (j := 3) rfl ?_
    rcases z_if h with ⟨q4, h⟩ | ⟨q4, h⟩
    · refine zg_tabIn (tgt := 56) 33 dd_68_23 q4 (by decide) (by decide) (by decide) ?_
      refine zg_aload_n dd_68_56 rfl (j := 0) rfl ?_
      refine zg_getR dd_68_57 zl_T_217 zCs_7 rfl zCr_7_1 ?_
      refine zg_iload_n dd_68_60 rfl (j := 2) rfl ?_
      obtain ⟨g5, h⟩ := z_gd h
      refine zg_iald dd_68_61 zCs_8 g5 ?_
      obtain rfl := Option.some.inj h
      exact zg_iret dd_68_62 rfl
    rcases z_if h with ⟨q6, h⟩ | ⟨q6, h⟩
    · refine zg_tabIn (tgt := 63) 40 dd_68_23 q6 (by decide) (by decide) (by decide) ?_
      refine zg_aload_n dd_68_63 rfl (j := 0) rfl ?_
      refine zg_getR dd_68_64 zl_T_220 zCs_7 rfl zCr_7_2 ?_
      refine zg_iload_n dd_68_67 rfl (j := 2) rfl ?_
      obtain ⟨g7, h⟩ := z_gd h
      refine zg_iald dd_68_68 zCs_9 g7 ?_
      obtain rfl := Option.some.inj h
      exact zg_iret dd_68_69 rfl
    rcases z_if h with ⟨q8, h⟩ | ⟨q8, h⟩
    · refine zg_tabIn (tgt := 70) 47 dd_68_23 q8 (by decide) (by decide) (by decide) ?_
      refine zg_aload_n dd_68_70 rfl (j := 0) rfl ?_
      refine zg_getR dd_68_71 zl_T_223 zCs_7 rfl zCr_7_3 ?_
      refine zg_iload_n dd_68_74 rfl (j := 2) rfl ?_
      obtain ⟨g9, h⟩ := z_gd h
      refine zg_iald dd_68_75 zCs_10 g9 ?_
      obtain rfl := Option.some.inj h
      exact zg_iret dd_68_76 rfl
    rcases z_if h with ⟨q10, h⟩ | ⟨q10, h⟩
    · refine zg_tabIn (tgt := 77) 54 dd_68_23 q10 (by decide) (by decide) (by decide) ?_
      refine zg_aload_n dd_68_77 rfl (j := 0) rfl ?_
      refine zg_getR dd_68_78 zl_T_226 zCs_7 rfl zCr_7_4 ?_
      refine zg_iload_n dd_68_81 rfl (j := 2) rfl ?_
      obtain ⟨g11, h⟩ := z_gd h
      refine zg_iald dd_68_82 zCs_11 g11 ?_
      obtain rfl := Option.some.inj h
      exact zg_iret dd_68_83 rfl
    rcases z_if h with ⟨q12, h⟩ | ⟨q12, h⟩
    · refine zg_tabIn (tgt := 84) 61 dd_68_23 q12 (by decide) (by decide) (by decide) ?_
      refine zg_aload_n dd_68_84 rfl (j := 1) rfl ?_
      refine zg_getR dd_68_85 zl_T_58 zCs_0 rfl zCr_0_10 ?_
      refine zg_aload_n dd_68_88 rfl (j := 1) rfl ?_
      refine zg_getR dd_68_89 zl_T_12 zCs_0 rfl zCr_0_0 ?_
      refine zg_iload_n dd_68_92 rfl (j := 2) rfl ?_
      obtain ⟨r13, e14, h⟩ := z_bd h
      refine zg_invV_i (av := [.inr (.inr (some 1)), .inl a1]) (st := []) (n := 2) dd_68_93 ca_70 zw_715 zw_716 zw_717 zCs_178 zcl_7 rfl (mt_fc_Walker_isSo e14) rfl ⟨by decide +kernel, by decide⟩ (Nat.le_of_ble_eq_true rfl) ?_
      refine zg_if_eq (tgt := 103) dd_68_96 (by decide) (fun q15 => ?_) (fun q15 => ?_)
      · replace h := z_t h q15
        refine zg_iconst dd_68_103 kI_0 ?_
        obtain rfl := Option.some.inj h
        exact zg_iret dd_68_104 rfl
      · replace h := z_f h q15
        refine zg_iconst dd_68_99 kI_1 ?_
        refine zg_goto (tgt := 104) dd_68_100 (by decide) ?_
        obtain rfl := Option.some.inj h
        exact zg_iret dd_68_104 rfl
    refine zg_tabOut (tgt := 105) [(0 : Int32), (1 : Int32), (2 : Int32), (3 : Int32), (4 : Int32)] dd_68_23 (by decide +kernel) (by simp only [List.mem_cons, List.not_mem_nil, or_false]; rintro _ (rfl | rfl | rfl | rfl | rfl) <;> assumption) (by decide) ?_
    refine zg_aload_n dd_68_105 rfl (j := 1) rfl ?_
    refine zg_iconst dd_68_106 kI_1 ?_
    obtain ⟨r16, e17, h⟩ := z_bd h
    refine zg_invV_i (av := [.inl (1 : Int32)]) (st := []) (n := 1) dd_68_107 ca_2 zw_430 zw_432 zv_0 zCs_0 zcl_11 rfl (mt_fc_T_refuse e17) rfl ⟨by decide +kernel, by decide⟩ (Nat.le_of_ble_eq_true rfl) ?_
    obtain rfl := Option.some.inj h
    exact zg_iret dd_68_110 rfl
  · replace h := z_t h q3
    refine zg_aload_n dd_68_16 rfl (j := 1) rfl ?_
    refine zg_iconst dd_68_17 kI_1 ?_
    obtain ⟨r18, e19, h⟩ := z_bd h
    refine zg_invV_i (av := [.inl (1 : Int32)]) (st := []) (n := 1) dd_68_18 ca_2 zw_430 zw_432 zv_0 zCs_0 zcl_11 rfl (mt_fc_T_refuse e19) rfl ⟨by decide +kernel, by decide⟩ (Nat.le_of_ble_eq_true rfl) ?_
    obtain rfl := Option.some.inj h
    exact zg_iret dd_68_21 rfl
/-! TurnedLand.isUnder[None, None] -/
def fc_T_isUnder_L4 (I : zI) : Nat → Int32 → Int32 → Int32 → Option Int32
  | 0, _, _, _ => none
  | nf + 1, v1, v2, v3 =>
    if (7 : Int32) ≤ v3 then
      some (0 : Int32)
    else
      (fc_T_within I v2 (0 : Int32) (6 : Int32)).bind fun r2 =>
      if r2 = 0 then
        some (0 : Int32)
      else
        if v2 = v1 then
          some (1 : Int32)
        else
          z_guard (zb v2 7) <|
          fc_T_isUnder_L4 I nf v1 (zLst [-1, 0, 1, 1, 0, 0, 2] v2.toNatClampNeg) (v3 + (1 : Int32))
def fc_T_isUnder (I : zI) (a0 : Int32) (a1 : Int32) : Option Int32 :=
  fc_T_isUnder_L4 I
    100 a1 a0 (0 : Int32)
set_option maxRecDepth 20000 in
theorem lt_fc_T_isUnder_L4 {res : Int32} {I : zI} : ∀ (nf : Nat) (v1 : Int32) (v2 : Int32) (v3 : Int32), fc_T_isUnder_L4 I nf v1 v2 v3 = some res → zG 2 ym_76 0 0 (some (.inl res)) (zCs, zCr, I) zCs.length 4 [(1, .inl v1), (2, .inl v2), (3, .inl v3)] [] (zCs, zCr, I) 0 0 := by
  intro nf
  induction nf with
  | zero =>
    intro v1 v2 v3 h
    have h2 : none = some res := h
    cases h2
  | succ nf ih =>
    intro v1 v2 v3 h
    rw [fc_T_isUnder_L4] at h
    refine zg_iload_n dd_76_4 rfl (j := 2) rfl ?_
    refine zg_bipush dd_76_5 kB_7 ?_
    refine zg_icmp_ge (tgt := 39) dd_76_7 (by decide) (fun q1 => ?_) (fun q1 => ?_)
    · replace h := z_t h q1
      refine zg_iconst dd_76_39 kI_0 ?_
      obtain rfl := Option.some.inj h
      exact zg_zret dd_76_40 rfl zSt_b0.1
    · replace h := z_f h q1
      refine zg_iload_n dd_76_10 rfl (j := 1) rfl ?_
      refine zg_iconst dd_76_11 kI_0 ?_
      refine zg_bipush dd_76_12 kB_6 ?_
      obtain ⟨r2, e3, h⟩ := z_bd h
      refine zg_invS_i (av := [.inl v2, .inl (0 : Int32), .inl (6 : Int32)]) (st := []) (n := 3) dd_76_14 ca_1 zw_427 zw_428 (mt_fc_T_within e3) rfl ⟨by decide +kernel, by decide⟩ (Nat.le_of_ble_eq_true rfl) ?_
      refine zg_if_eq (tgt := 39) dd_76_17 (by decide) (fun q4 => ?_) (fun q4 => ?_)
      · replace h := z_t h q4
        refine zg_iconst dd_76_39 kI_0 ?_
        obtain rfl := Option.some.inj h
        exact zg_zret dd_76_40 rfl zSt_b0.1
      · replace h := z_f h q4
        refine zg_iload_n dd_76_20 rfl (j := 1) rfl ?_
        refine zg_iload_n dd_76_21 rfl (j := 0) rfl ?_
        refine zg_icmp_ne (tgt := 27) dd_76_22 (by decide) (fun q5 => ?_) (fun q5 => ?_)
        · replace h := z_f h q5
          refine zg_gst dd_76_27 (List.mem_of_getElem? (i := 2) rfl) zw_745 ?_
          refine zg_iload_n dd_76_30 rfl (j := 1) rfl ?_
          obtain ⟨g6, h⟩ := z_gd h
          refine zg_tiald dd_76_31 (List.mem_of_getElem? (i := 2) rfl) g6 ?_
          refine zg_istore_n dd_76_32 rfl (Nat.le_of_ble_eq_true rfl) (lv' := [(2, .inl (zLst [-1, 0, 1, 1, 0, 0, 2] v2.toNatClampNeg)), (1, .inl v1), (3, .inl v3)]) rfl ?_
          refine zg_iinc dd_76_33 (j := 2) rfl (v := (v3 + (1 : Int32))) (by rw [kI_1]) (Nat.le_of_ble_eq_true rfl) (lv' := [(3, .inl (v3 + (1 : Int32))), (2, .inl (zLst [-1, 0, 1, 1, 0, 0, 2] v2.toNatClampNeg)), (1, .inl v1)]) rfl ?_
          refine zg_goto (tgt := 4) dd_76_36 (by decide) ?_
          refine zg_sub [2, 1, 0] rfl ?_
          exact ih _ _ _ h
        · replace h := z_t h q5
          refine zg_iconst dd_76_25 kI_1 ?_
          obtain rfl := Option.some.inj h
          exact zg_zret dd_76_26 rfl zSt_b1.1
set_option maxRecDepth 20000 in
theorem mt_fc_T_isUnder {I : zI} {a0 : Int32} {a1 : Int32} {res : Int32} (h : fc_T_isUnder I a0 a1 = some res) : zM 2 ym_76 [.inl a0, .inl a1] (zCs, zCr, I) (some (.inl res)) (zCs, zCr, I) 0 0 := by
  refine zM_of (by decide) (Nat.le_of_ble_eq_true rfl) (lv := [(0, .inl a0), (1, .inl a1)]) rfl ?_
  rw [fc_T_isUnder] at h
  refine zg_iload_n dd_76_0 rfl (j := 0) rfl ?_
  refine zg_istore_n dd_76_1 rfl (Nat.le_of_ble_eq_true rfl) (lv' := [(2, .inl a0), (0, .inl a0), (1, .inl a1)]) rfl ?_
  refine zg_iconst dd_76_2 kI_0 ?_
  refine zg_istore_n dd_76_3 rfl (Nat.le_of_ble_eq_true rfl) (lv' := [(3, .inl (0 : Int32)), (2, .inl a0), (0, .inl a0), (1, .inl a1)]) rfl ?_
  refine zg_sub [3, 1, 0] rfl ?_
  refine lt_fc_T_isUnder_L4  _ _ _ _ h
/-! TurnedLand.as(0, None, None) -/
def fc_T_as (I : zI) (a1 : Int32) (a2 : Int32) : Option (Int32 × zI) :=
  (fc_Walks_has I a1).bind fun r1 =>
  if r1 = 0 then
    (fc_T_refuse I (1 : Int32)).bind fun r4 =>
    some (r4.1, r4.2)
  else
    (fc_T_within I a2 (0 : Int32) (6 : Int32)).bind fun r6 =>
    if r6 = 0 then
      (fc_T_refuse I (1 : Int32)).bind fun r16 =>
      some (r16.1, r16.2)
    else
      z_guard (zb a1 10) <|
      (fc_T_isUnder I (I 8 a1.toNatClampNeg) a2).bind fun r10 =>
      if r10 = 0 then
        (fc_T_refuse I (5 : Int32)).bind fun r14 =>
        some (r14.1, r14.2)
      else
        z_guard (zb a1 10) <|
        some ((I 10 a1.toNatClampNeg), I)
set_option maxRecDepth 20000 in
theorem mt_fc_T_as {I : zI} {a1 : Int32} {a2 : Int32} {res : (Int32 × zI)} (h : fc_T_as I a1 a2 = some res) : zM 3 ym_75 [.inr (.inr (some 0)), .inl a1, .inl a2] (zCs, zCr, I) (some (.inl res.1)) (zCs, zCr, res.2) 0 0 := by
  refine zM_of (by decide) (Nat.le_of_ble_eq_true rfl) (lv := [(0, .inr (.inr (some 0))), (1, .inl a1), (2, .inl a2)]) rfl ?_
  rw [fc_T_as] at h
  refine zg_aload_n dd_75_0 rfl (j := 0) rfl ?_
  refine zg_getR dd_75_1 zl_T_12 zCs_0 rfl zCr_0_0 ?_
  refine zg_getR dd_75_4 zl_T_199 zCs_1 rfl zCr_1_1 ?_
  refine zg_astore_n dd_75_7 rfl (Nat.le_of_ble_eq_true rfl) (lv' := [(3, .inr (.inr (some 7))), (0, .inr (.inr (some 0))), (1, .inl a1), (2, .inl a2)]) rfl ?_
  refine zg_aload_n dd_75_8 rfl (j := 0) rfl ?_
  refine zg_iload_n dd_75_9 rfl (j := 2) rfl ?_
  obtain ⟨r1, e2, h⟩ := z_bd h
  refine zg_invV_i (av := [.inl a1]) (st := []) (n := 1) dd_75_10 ca_69 zw_711 zw_712 zw_713 zCs_7 zcl_8 rfl (mt_fc_Walks_has e2) rfl ⟨by decide +kernel, by decide⟩ (Nat.le_of_ble_eq_true rfl) ?_
  refine zg_if_eq (tgt := 26) dd_75_13 (by decide) (fun q3 => ?_) (fun q3 => ?_)
  · replace h := z_t h q3
    refine zg_aload_n dd_75_26 rfl (j := 1) rfl ?_
    refine zg_iconst dd_75_27 kI_1 ?_
    obtain ⟨r4, e5, h⟩ := z_bd h
    refine zg_invV_i (av := [.inl (1 : Int32)]) (st := []) (n := 1) dd_75_28 ca_2 zw_430 zw_432 zv_0 zCs_0 zcl_11 rfl (mt_fc_T_refuse e5) rfl ⟨by decide +kernel, by decide⟩ (Nat.le_of_ble_eq_true rfl) ?_
    obtain rfl := Option.some.inj h
    exact zg_iret dd_75_31 rfl
  · replace h := z_f h q3
    refine zg_iload_n dd_75_16 rfl (j := 3) rfl ?_
    refine zg_iconst dd_75_17 kI_0 ?_
    refine zg_bipush dd_75_18 kB_6 ?_
    obtain ⟨r6, e7, h⟩ := z_bd h
    refine zg_invS_i (av := [.inl a2, .inl (0 : Int32), .inl (6 : Int32)]) (st := []) (n := 3) dd_75_20 ca_1 zw_427 zw_428 (mt_fc_T_within e7) rfl ⟨by decide +kernel, by decide⟩ (Nat.le_of_ble_eq_true rfl) ?_
    refine zg_if_ne (tgt := 32) dd_75_23 (by decide) (fun q8 => ?_) (fun q8 => ?_)
    · replace h := z_f h q8
      refine zg_aload_n dd_75_32 rfl (j := 0) rfl ?_
      refine zg_getR dd_75_33 zl_T_217 zCs_7 rfl zCr_7_1 ?_
      refine zg_iload_n dd_75_36 rfl (j := 2) rfl ?_
      obtain ⟨g9, h⟩ := z_gd h
      refine zg_iald dd_75_37 zCs_8 g9 ?_
      refine zg_iload_n dd_75_38 rfl (j := 3) rfl ?_
      obtain ⟨r10, e11, h⟩ := z_bd h
      refine zg_invS_i (av := [.inl (I 8 a1.toNatClampNeg), .inl a2]) (st := []) (n := 2) dd_75_39 ca_76 zw_742 zw_743 (mt_fc_T_isUnder e11) rfl ⟨by decide +kernel, by decide⟩ (Nat.le_of_ble_eq_true rfl) ?_
      refine zg_if_ne (tgt := 51) dd_75_42 (by decide) (fun q12 => ?_) (fun q12 => ?_)
      · replace h := z_f h q12
        refine zg_aload_n dd_75_51 rfl (j := 0) rfl ?_
        refine zg_getR dd_75_52 zl_T_223 zCs_7 rfl zCr_7_3 ?_
        refine zg_iload_n dd_75_55 rfl (j := 2) rfl ?_
        obtain ⟨g13, h⟩ := z_gd h
        refine zg_iald dd_75_56 zCs_10 g13 ?_
        obtain rfl := Option.some.inj h
        exact zg_iret dd_75_57 rfl
      · replace h := z_t h q12
        refine zg_aload_n dd_75_45 rfl (j := 1) rfl ?_
        refine zg_iconst dd_75_46 kI_5 ?_
        obtain ⟨r14, e15, h⟩ := z_bd h
        refine zg_invV_i (av := [.inl (5 : Int32)]) (st := []) (n := 1) dd_75_47 ca_2 zw_430 zw_432 zv_0 zCs_0 zcl_11 rfl (mt_fc_T_refuse e15) rfl ⟨by decide +kernel, by decide⟩ (Nat.le_of_ble_eq_true rfl) ?_
        obtain rfl := Option.some.inj h
        exact zg_iret dd_75_50 rfl
    · replace h := z_t h q8
      refine zg_aload_n dd_75_26 rfl (j := 1) rfl ?_
      refine zg_iconst dd_75_27 kI_1 ?_
      obtain ⟨r16, e17, h⟩ := z_bd h
      refine zg_invV_i (av := [.inl (1 : Int32)]) (st := []) (n := 1) dd_75_28 ca_2 zw_430 zw_432 zv_0 zCs_0 zcl_11 rfl (mt_fc_T_refuse e17) rfl ⟨by decide +kernel, by decide⟩ (Nat.le_of_ble_eq_true rfl) ?_
      obtain rfl := Option.some.inj h
      exact zg_iret dd_75_31 rfl
/-! TurnedLand.set(0, None, None, None) -/
def fc_T_set (I : zI) (a1 : Int32) (a2 : Int32) (a3 : Int32) : Option (Int32 × zI) :=
  (fc_Walks_has I a1).bind fun r1 =>
  if r1 = 0 then
    (fc_T_refuse I (1 : Int32)).bind fun r30 =>
    some (r30.1, r30.2)
  else
    if a2 = 0 then
      (fc_T_within I a3 (0 : Int32) (6 : Int32)).bind fun r15 =>
      if r15 = 0 then
        if a2 = (3 : Int32) then
          (fc_T_within I a3 (-1 : Int32) (9999 : Int32)).bind fun r21 =>
          if r21 = 0 then
            (fc_T_refuse I (1 : Int32)).bind fun r24 =>
            some (r24.1, r24.2)
          else
            z_guard (zb a1 10) <|
            z_guard (zb a1 10) <|
            some ((I 11 a1.toNatClampNeg), (zup I 11 a1.toNatClampNeg a3))
        else
          (fc_T_refuse I (1 : Int32)).bind fun r19 =>
          some (r19.1, r19.2)
      else
        z_guard (zb a1 10) <|
        z_guard (zb a1 10) <|
        some ((I 8 a1.toNatClampNeg), (zup I 8 a1.toNatClampNeg a3))
    else
      if a2 = (3 : Int32) then
        (fc_T_within I a3 (-1 : Int32) (9999 : Int32)).bind fun r8 =>
        if r8 = 0 then
          (fc_T_refuse I (1 : Int32)).bind fun r11 =>
          some (r11.1, r11.2)
        else
          z_guard (zb a1 10) <|
          z_guard (zb a1 10) <|
          some ((I 11 a1.toNatClampNeg), (zup I 11 a1.toNatClampNeg a3))
      else
        (fc_T_refuse I (1 : Int32)).bind fun r6 =>
        some (r6.1, r6.2)
set_option maxRecDepth 20000 in
theorem mt_fc_T_set {I : zI} {a1 : Int32} {a2 : Int32} {a3 : Int32} {res : (Int32 × zI)} (h : fc_T_set I a1 a2 a3 = some res) : zM 3 ym_77 [.inr (.inr (some 0)), .inl a1, .inl a2, .inl a3] (zCs, zCr, I) (some (.inl res.1)) (zCs, zCr, res.2) 0 0 := by
  refine zM_of (by decide) (Nat.le_of_ble_eq_true rfl) (lv := [(0, .inr (.inr (some 0))), (1, .inl a1), (2, .inl a2), (3, .inl a3)]) rfl ?_
  rw [fc_T_set] at h
  refine zg_aload_n dd_77_0 rfl (j := 0) rfl ?_
  refine zg_getR dd_77_1 zl_T_12 zCs_0 rfl zCr_0_0 ?_
  refine zg_getR dd_77_4 zl_T_199 zCs_1 rfl zCr_1_1 ?_
  refine zg_astore dd_77_7 (Nat.le_of_ble_eq_true rfl) (lv' := [(4, .inr (.inr (some 7))), (0, .inr (.inr (some 0))), (1, .inl a1), (2, .inl a2), (3, .inl a3)]) rfl ?_
  refine zg_aload dd_77_9 (j := 0) rfl ?_
  refine zg_iload_n dd_77_11 rfl (j := 2) rfl ?_
  obtain ⟨r1, e2, h⟩ := z_bd h
  refine zg_invV_i (av := [.inl a1]) (st := []) (n := 1) dd_77_12 ca_69 zw_711 zw_712 zw_713 zCs_7 zcl_8 rfl (mt_fc_Walks_has e2) rfl ⟨by decide +kernel, by decide⟩ (Nat.le_of_ble_eq_true rfl) ?_
  refine zg_if_ne (tgt := 24) dd_77_15 (by decide) (fun q3 => ?_) (fun q3 => ?_)
  · replace h := z_f h q3
    refine zg_iload_n dd_77_24 rfl (j := 3) rfl ?_
    refine zg_if_ne (tgt := 58) dd_77_25 (by decide) (fun q4 => ?_) (fun q4 => ?_)
    · replace h := z_f h q4
      refine zg_iload_n dd_77_58 rfl (j := 3) rfl ?_
      refine zg_iconst dd_77_59 kI_3 ?_
      refine zg_icmp_ne (tgt := 94) dd_77_60 (by decide) (fun q5 => ?_) (fun q5 => ?_)
      · replace h := z_f h q5
        refine zg_aload_n dd_77_94 rfl (j := 1) rfl ?_
        refine zg_iconst dd_77_95 kI_1 ?_
        obtain ⟨r6, e7, h⟩ := z_bd h
        refine zg_invV_i (av := [.inl (1 : Int32)]) (st := []) (n := 1) dd_77_96 ca_2 zw_430 zw_432 zv_0 zCs_0 zcl_11 rfl (mt_fc_T_refuse e7) rfl ⟨by decide +kernel, by decide⟩ (Nat.le_of_ble_eq_true rfl) ?_
        obtain rfl := Option.some.inj h
        exact zg_iret dd_77_99 rfl
      · replace h := z_t h q5
        refine zg_iload_n dd_77_63 rfl (j := 4) rfl ?_
        refine zg_iconst dd_77_64 kI_m1 ?_
        refine zg_sipush dd_77_65 kS_9999 ?_
        obtain ⟨r8, e9, h⟩ := z_bd h
        refine zg_invS_i (av := [.inl a3, .inl (-1 : Int32), .inl (9999 : Int32)]) (st := []) (n := 3) dd_77_68 ca_1 zw_427 zw_428 (mt_fc_T_within e9) rfl ⟨by decide +kernel, by decide⟩ (Nat.le_of_ble_eq_true rfl) ?_
        refine zg_if_eq (tgt := 94) dd_77_71 (by decide) (fun q10 => ?_) (fun q10 => ?_)
        · replace h := z_t h q10
          refine zg_aload_n dd_77_94 rfl (j := 1) rfl ?_
          refine zg_iconst dd_77_95 kI_1 ?_
          obtain ⟨r11, e12, h⟩ := z_bd h
          refine zg_invV_i (av := [.inl (1 : Int32)]) (st := []) (n := 1) dd_77_96 ca_2 zw_430 zw_432 zv_0 zCs_0 zcl_11 rfl (mt_fc_T_refuse e12) rfl ⟨by decide +kernel, by decide⟩ (Nat.le_of_ble_eq_true rfl) ?_
          obtain rfl := Option.some.inj h
          exact zg_iret dd_77_99 rfl
        · replace h := z_f h q10
          refine zg_aload dd_77_74 (j := 0) rfl ?_
          refine zg_getR dd_77_76 zl_T_226 zCs_7 rfl zCr_7_4 ?_
          refine zg_iload_n dd_77_79 rfl (j := 2) rfl ?_
          obtain ⟨g13, h⟩ := z_gd h
          refine zg_iald dd_77_80 zCs_11 g13 ?_
          refine zg_istore dd_77_81 (Nat.le_of_ble_eq_true rfl) (lv' := [(5, .inl (I 11 a1.toNatClampNeg)), (4, .inr (.inr (some 7))), (0, .inr (.inr (some 0))), (1, .inl a1), (2, .inl a2), (3, .inl a3)]) rfl ?_
          refine zg_aload dd_77_83 (j := 1) rfl ?_
          refine zg_getR dd_77_85 zl_T_226 zCs_7 rfl zCr_7_4 ?_
          refine zg_iload_n dd_77_88 rfl (j := 3) rfl ?_
          refine zg_iload_n dd_77_89 rfl (j := 5) rfl ?_
          obtain ⟨g14, h⟩ := z_gd h
          refine zg_iast dd_77_90 zCs_11 g14 ?_
          refine zg_goto (tgt := 100) dd_77_91 (by decide) ?_
          refine zg_iload dd_77_100 (j := 0) rfl ?_
          obtain rfl := Option.some.inj h
          exact zg_iret dd_77_102 rfl
    · replace h := z_t h q4
      refine zg_iload_n dd_77_28 rfl (j := 4) rfl ?_
      refine zg_iconst dd_77_29 kI_0 ?_
      refine zg_bipush dd_77_30 kB_6 ?_
      obtain ⟨r15, e16, h⟩ := z_bd h
      refine zg_invS_i (av := [.inl a3, .inl (0 : Int32), .inl (6 : Int32)]) (st := []) (n := 3) dd_77_32 ca_1 zw_427 zw_428 (mt_fc_T_within e16) rfl ⟨by decide +kernel, by decide⟩ (Nat.le_of_ble_eq_true rfl) ?_
      refine zg_if_eq (tgt := 58) dd_77_35 (by decide) (fun q17 => ?_) (fun q17 => ?_)
      · replace h := z_t h q17
        refine zg_iload_n dd_77_58 rfl (j := 3) rfl ?_
        refine zg_iconst dd_77_59 kI_3 ?_
        refine zg_icmp_ne (tgt := 94) dd_77_60 (by decide) (fun q18 => ?_) (fun q18 => ?_)
        · replace h := z_f h q18
          refine zg_aload_n dd_77_94 rfl (j := 1) rfl ?_
          refine zg_iconst dd_77_95 kI_1 ?_
          obtain ⟨r19, e20, h⟩ := z_bd h
          refine zg_invV_i (av := [.inl (1 : Int32)]) (st := []) (n := 1) dd_77_96 ca_2 zw_430 zw_432 zv_0 zCs_0 zcl_11 rfl (mt_fc_T_refuse e20) rfl ⟨by decide +kernel, by decide⟩ (Nat.le_of_ble_eq_true rfl) ?_
          obtain rfl := Option.some.inj h
          exact zg_iret dd_77_99 rfl
        · replace h := z_t h q18
          refine zg_iload_n dd_77_63 rfl (j := 4) rfl ?_
          refine zg_iconst dd_77_64 kI_m1 ?_
          refine zg_sipush dd_77_65 kS_9999 ?_
          obtain ⟨r21, e22, h⟩ := z_bd h
          refine zg_invS_i (av := [.inl a3, .inl (-1 : Int32), .inl (9999 : Int32)]) (st := []) (n := 3) dd_77_68 ca_1 zw_427 zw_428 (mt_fc_T_within e22) rfl ⟨by decide +kernel, by decide⟩ (Nat.le_of_ble_eq_true rfl) ?_
          refine zg_if_eq (tgt := 94) dd_77_71 (by decide) (fun q23 => ?_) (fun q23 => ?_)
          · replace h := z_t h q23
            refine zg_aload_n dd_77_94 rfl (j := 1) rfl ?_
            refine zg_iconst dd_77_95 kI_1 ?_
            obtain ⟨r24, e25, h⟩ := z_bd h
            refine zg_invV_i (av := [.inl (1 : Int32)]) (st := []) (n := 1) dd_77_96 ca_2 zw_430 zw_432 zv_0 zCs_0 zcl_11 rfl (mt_fc_T_refuse e25) rfl ⟨by decide +kernel, by decide⟩ (Nat.le_of_ble_eq_true rfl) ?_
            obtain rfl := Option.some.inj h
            exact zg_iret dd_77_99 rfl
          · replace h := z_f h q23
            refine zg_aload dd_77_74 (j := 0) rfl ?_
            refine zg_getR dd_77_76 zl_T_226 zCs_7 rfl zCr_7_4 ?_
            refine zg_iload_n dd_77_79 rfl (j := 2) rfl ?_
            obtain ⟨g26, h⟩ := z_gd h
            refine zg_iald dd_77_80 zCs_11 g26 ?_
            refine zg_istore dd_77_81 (Nat.le_of_ble_eq_true rfl) (lv' := [(5, .inl (I 11 a1.toNatClampNeg)), (4, .inr (.inr (some 7))), (0, .inr (.inr (some 0))), (1, .inl a1), (2, .inl a2), (3, .inl a3)]) rfl ?_
            refine zg_aload dd_77_83 (j := 1) rfl ?_
            refine zg_getR dd_77_85 zl_T_226 zCs_7 rfl zCr_7_4 ?_
            refine zg_iload_n dd_77_88 rfl (j := 3) rfl ?_
            refine zg_iload_n dd_77_89 rfl (j := 5) rfl ?_
            obtain ⟨g27, h⟩ := z_gd h
            refine zg_iast dd_77_90 zCs_11 g27 ?_
            refine zg_goto (tgt := 100) dd_77_91 (by decide) ?_
            refine zg_iload dd_77_100 (j := 0) rfl ?_
            obtain rfl := Option.some.inj h
            exact zg_iret dd_77_102 rfl
      · replace h := z_f h q17
        refine zg_aload dd_77_38 (j := 0) rfl ?_
        refine zg_getR dd_77_40 zl_T_217 zCs_7 rfl zCr_7_1 ?_
        refine zg_iload_n dd_77_43 rfl (j := 2) rfl ?_
        obtain ⟨g28, h⟩ := z_gd h
        refine zg_iald dd_77_44 zCs_8 g28 ?_
        refine zg_istore dd_77_45 (Nat.le_of_ble_eq_true rfl) (lv' := [(5, .inl (I 8 a1.toNatClampNeg)), (4, .inr (.inr (some 7))), (0, .inr (.inr (some 0))), (1, .inl a1), (2, .inl a2), (3, .inl a3)]) rfl ?_
        refine zg_aload dd_77_47 (j := 1) rfl ?_
        refine zg_getR dd_77_49 zl_T_217 zCs_7 rfl zCr_7_1 ?_
        refine zg_iload_n dd_77_52 rfl (j := 3) rfl ?_
        refine zg_iload_n dd_77_53 rfl (j := 5) rfl ?_
        obtain ⟨g29, h⟩ := z_gd h
        refine zg_iast dd_77_54 zCs_8 g29 ?_
        refine zg_goto (tgt := 100) dd_77_55 (by decide) ?_
        refine zg_iload dd_77_100 (j := 0) rfl ?_
        obtain rfl := Option.some.inj h
        exact zg_iret dd_77_102 rfl
  · replace h := z_t h q3
    refine zg_aload_n dd_77_18 rfl (j := 1) rfl ?_
    refine zg_iconst dd_77_19 kI_1 ?_
    obtain ⟨r30, e31, h⟩ := z_bd h
    refine zg_invV_i (av := [.inl (1 : Int32)]) (st := []) (n := 1) dd_77_20 ca_2 zw_430 zw_432 zv_0 zCs_0 zcl_11 rfl (mt_fc_T_refuse e31) rfl ⟨by decide +kernel, by decide⟩ (Nat.le_of_ble_eq_true rfl) ?_
    obtain rfl := Option.some.inj h
    exact zg_iret dd_77_23 rfl
/-! TurnedLand$Walker.turns[178] -/
def fc_Walker_turns_L4 (I : zI) : Nat → Int32 → Int32 → Option Int32
  | 0, _, _ => none
  | nf + 1, v1, v2 =>
    if (I 178 1) ≤ v2 then
      some v1
    else
      z_guard (zb v2 9) <|
      z_guard (zb (v2 + (1 : Int32)) 9) <|
      fc_Walker_turns_L4 I nf (v1 + (((I 179 v2.toNatClampNeg) ^^^ (I 179 (v2 + (1 : Int32)).toNatClampNeg)) &&& (1 : Int32))) (v2 + (1 : Int32))
def fc_Walker_turns (I : zI) : Option Int32 :=
  fc_Walker_turns_L4 I
    100 (0 : Int32) (0 : Int32)
set_option maxRecDepth 20000 in
theorem lt_fc_Walker_turns_L4 {res : Int32} {I : zI} : ∀ (nf : Nat) (v1 : Int32) (v2 : Int32), fc_Walker_turns_L4 I nf v1 v2 = some res → zG 1 ym_79 0 0 (some (.inl res)) (zCs, zCr, I) zCs.length 4 [(0, .inr (.inr (some 178))), (1, .inl v1), (2, .inl v2)] [] (zCs, zCr, I) 0 0 := by
  intro nf
  induction nf with
  | zero =>
    intro v1 v2 h
    have h2 : none = some res := h
    cases h2
  | succ nf ih =>
    intro v1 v2 h
    rw [fc_Walker_turns_L4] at h
    refine zg_iload_n dd_79_4 rfl (j := 2) rfl ?_
    refine zg_aload_n dd_79_5 rfl (j := 0) rfl ?_
    refine zg_getI dd_79_6 zl_Walker_15 zCs_178 rfl ?_
    refine zg_icmp_ge (tgt := 38) dd_79_9 (by decide) (fun q1 => ?_) (fun q1 => ?_)
    · replace h := z_t h q1
      refine zg_iload_n dd_79_38 rfl (j := 1) rfl ?_
      obtain rfl := Option.some.inj h
      exact zg_iret dd_79_39 rfl
    · replace h := z_f h q1
      refine zg_iload_n dd_79_12 rfl (j := 1) rfl ?_
      refine zg_aload_n dd_79_13 rfl (j := 0) rfl ?_
      refine zg_getR dd_79_14 zl_Walker_9 zCs_178 rfl zCr_178_0 ?_
      refine zg_iload_n dd_79_17 rfl (j := 2) rfl ?_
      obtain ⟨g2, h⟩ := z_gd h
      refine zg_iald dd_79_18 zCs_179 g2 ?_
      refine zg_aload_n dd_79_19 rfl (j := 0) rfl ?_
      refine zg_getR dd_79_20 zl_Walker_9 zCs_178 rfl zCr_178_0 ?_
      refine zg_iload_n dd_79_23 rfl (j := 2) rfl ?_
      refine zg_iconst dd_79_24 kI_1 ?_
      refine zg_iadd dd_79_25 ?_
      obtain ⟨g3, h⟩ := z_gd h
      refine zg_iald dd_79_26 zCs_179 g3 ?_
      refine zg_ixor dd_79_27 ?_
      refine zg_iconst dd_79_28 kI_1 ?_
      refine zg_iand dd_79_29 ?_
      refine zg_iadd dd_79_30 ?_
      refine zg_istore_n dd_79_31 rfl (Nat.le_of_ble_eq_true rfl) (lv' := [(1, .inl (v1 + (((I 179 v2.toNatClampNeg) ^^^ (I 179 (v2 + (1 : Int32)).toNatClampNeg)) &&& (1 : Int32)))), (0, .inr (.inr (some 178))), (2, .inl v2)]) rfl ?_
      refine zg_iinc dd_79_32 (j := 2) rfl (v := (v2 + (1 : Int32))) (by rw [kI_1]) (Nat.le_of_ble_eq_true rfl) (lv' := [(2, .inl (v2 + (1 : Int32))), (1, .inl (v1 + (((I 179 v2.toNatClampNeg) ^^^ (I 179 (v2 + (1 : Int32)).toNatClampNeg)) &&& (1 : Int32)))), (0, .inr (.inr (some 178)))]) rfl ?_
      refine zg_goto (tgt := 4) dd_79_35 (by decide) ?_
      refine zg_sub [2, 1, 0] rfl ?_
      exact ih _ _ h
set_option maxRecDepth 20000 in
theorem mt_fc_Walker_turns {I : zI} {res : Int32} (h : fc_Walker_turns I = some res) : zM 1 ym_79 [.inr (.inr (some 178))] (zCs, zCr, I) (some (.inl res)) (zCs, zCr, I) 0 0 := by
  refine zM_of (by decide) (Nat.le_of_ble_eq_true rfl) (lv := [(0, .inr (.inr (some 178)))]) rfl ?_
  rw [fc_Walker_turns] at h
  refine zg_iconst dd_79_0 kI_0 ?_
  refine zg_istore_n dd_79_1 rfl (Nat.le_of_ble_eq_true rfl) (lv' := [(1, .inl (0 : Int32)), (0, .inr (.inr (some 178)))]) rfl ?_
  refine zg_iconst dd_79_2 kI_0 ?_
  refine zg_istore_n dd_79_3 rfl (Nat.le_of_ble_eq_true rfl) (lv' := [(2, .inl (0 : Int32)), (1, .inl (0 : Int32)), (0, .inr (.inr (some 178)))]) rfl ?_
  refine zg_sub [2, 1, 0] rfl ?_
  refine lt_fc_Walker_turns_L4  _ _ _ h
/-! TurnedLand.gone(0, None, None, None) -/
def fc_T_gone (I : zI) (a1 : Int32) (a2 : Int32) (a3 : Int32) : Option (Int32 × zI) :=
  (fc_Walks_has I a1).bind fun r1 =>
  if r1 = 0 then
    (fc_T_refuse I (1 : Int32)).bind fun r4 =>
    some (r4.1, r4.2)
  else
    (fc_T_within I a2 (0 : Int32) (1 : Int32)).bind fun r6 =>
    if r6 = 0 then
      (fc_T_refuse I (1 : Int32)).bind fun r9 =>
      some (r9.1, r9.2)
    else
      (fc_T_within I a3 (0 : Int32) (2 : Int32)).bind fun r11 =>
      if r11 = 0 then
        (fc_T_refuse I (1 : Int32)).bind fun r27 =>
        some (r27.1, r27.2)
      else
        (fc_Walker_goes I a1 a2).bind fun r14 =>
        if r14.1 = 0 then
          (fc_T_refuse r14.2 (3 : Int32)).bind fun r25 =>
          some (r25.1, r25.2)
        else
          if a3 = 0 then
            (fc_Walker_end r14.2).bind fun r23 =>
            some (r23, r14.2)
          else
            if a3 = (1 : Int32) then
              (fc_Walker_hours r14.2 a1).bind fun r21 =>
              some (r21.1, r21.2)
            else
              (fc_Walker_turns r14.2).bind fun r19 =>
              some (r19, r14.2)
set_option maxRecDepth 20000 in
theorem mt_fc_T_gone {I : zI} {a1 : Int32} {a2 : Int32} {a3 : Int32} {res : (Int32 × zI)} (h : fc_T_gone I a1 a2 a3 = some res) : zM 6 ym_78 [.inr (.inr (some 0)), .inl a1, .inl a2, .inl a3] (zCs, zCr, I) (some (.inl res.1)) (zCs, zCr, res.2) 0 0 := by
  refine zM_of (by decide) (Nat.le_of_ble_eq_true rfl) (lv := [(0, .inr (.inr (some 0))), (1, .inl a1), (2, .inl a2), (3, .inl a3)]) rfl ?_
  rw [fc_T_gone] at h
  refine zg_aload_n dd_78_0 rfl (j := 0) rfl ?_
  refine zg_getR dd_78_1 zl_T_12 zCs_0 rfl zCr_0_0 ?_
  refine zg_getR dd_78_4 zl_T_199 zCs_1 rfl zCr_1_1 ?_
  refine zg_iload_n dd_78_7 rfl (j := 1) rfl ?_
  obtain ⟨r1, e2, h⟩ := z_bd h
  refine zg_invV_i (av := [.inl a1]) (st := []) (n := 1) dd_78_8 ca_69 zw_711 zw_712 zw_713 zCs_7 zcl_8 rfl (mt_fc_Walks_has e2) rfl ⟨by decide +kernel, by decide⟩ (Nat.le_of_ble_eq_true rfl) ?_
  refine zg_if_eq (tgt := 32) dd_78_11 (by decide) (fun q3 => ?_) (fun q3 => ?_)
  · replace h := z_t h q3
    refine zg_aload_n dd_78_32 rfl (j := 0) rfl ?_
    refine zg_iconst dd_78_33 kI_1 ?_
    obtain ⟨r4, e5, h⟩ := z_bd h
    refine zg_invV_i (av := [.inl (1 : Int32)]) (st := []) (n := 1) dd_78_34 ca_2 zw_430 zw_432 zv_0 zCs_0 zcl_11 rfl (mt_fc_T_refuse e5) rfl ⟨by decide +kernel, by decide⟩ (Nat.le_of_ble_eq_true rfl) ?_
    obtain rfl := Option.some.inj h
    exact zg_iret dd_78_37 rfl
  · replace h := z_f h q3
    refine zg_iload_n dd_78_14 rfl (j := 2) rfl ?_
    refine zg_iconst dd_78_15 kI_0 ?_
    refine zg_iconst dd_78_16 kI_1 ?_
    obtain ⟨r6, e7, h⟩ := z_bd h
    refine zg_invS_i (av := [.inl a2, .inl (0 : Int32), .inl (1 : Int32)]) (st := []) (n := 3) dd_78_17 ca_1 zw_427 zw_428 (mt_fc_T_within e7) rfl ⟨by decide +kernel, by decide⟩ (Nat.le_of_ble_eq_true rfl) ?_
    refine zg_if_eq (tgt := 32) dd_78_20 (by decide) (fun q8 => ?_) (fun q8 => ?_)
    · replace h := z_t h q8
      refine zg_aload_n dd_78_32 rfl (j := 0) rfl ?_
      refine zg_iconst dd_78_33 kI_1 ?_
      obtain ⟨r9, e10, h⟩ := z_bd h
      refine zg_invV_i (av := [.inl (1 : Int32)]) (st := []) (n := 1) dd_78_34 ca_2 zw_430 zw_432 zv_0 zCs_0 zcl_11 rfl (mt_fc_T_refuse e10) rfl ⟨by decide +kernel, by decide⟩ (Nat.le_of_ble_eq_true rfl) ?_
      obtain rfl := Option.some.inj h
      exact zg_iret dd_78_37 rfl
    · replace h := z_f h q8
      refine zg_iload_n dd_78_23 rfl (j := 3) rfl ?_
      refine zg_iconst dd_78_24 kI_0 ?_
      refine zg_iconst dd_78_25 kI_2 ?_
      obtain ⟨r11, e12, h⟩ := z_bd h
      refine zg_invS_i (av := [.inl a3, .inl (0 : Int32), .inl (2 : Int32)]) (st := []) (n := 3) dd_78_26 ca_1 zw_427 zw_428 (mt_fc_T_within e12) rfl ⟨by decide +kernel, by decide⟩ (Nat.le_of_ble_eq_true rfl) ?_
      refine zg_if_ne (tgt := 38) dd_78_29 (by decide) (fun q13 => ?_) (fun q13 => ?_)
      · replace h := z_f h q13
        refine zg_aload_n dd_78_38 rfl (j := 0) rfl ?_
        refine zg_getR dd_78_39 zl_T_58 zCs_0 rfl zCr_0_10 ?_
        refine zg_aload_n dd_78_42 rfl (j := 0) rfl ?_
        refine zg_getR dd_78_43 zl_T_12 zCs_0 rfl zCr_0_0 ?_
        refine zg_iload_n dd_78_46 rfl (j := 1) rfl ?_
        refine zg_iload_n dd_78_47 rfl (j := 2) rfl ?_
        obtain ⟨r14, e15, h⟩ := z_bd h
        refine zg_invV_i (av := [.inr (.inr (some 1)), .inl a1, .inl a2]) (st := []) (n := 3) dd_78_48 ca_71 zw_755 zw_720 zw_721 zCs_178 zcl_7 rfl (mt_fc_Walker_goes e15) rfl ⟨by decide +kernel, by decide⟩ (Nat.le_of_ble_eq_true rfl) ?_
        refine zg_if_ne (tgt := 60) dd_78_51 (by decide) (fun q16 => ?_) (fun q16 => ?_)
        · replace h := z_f h q16
          refine zg_iload_n dd_78_60 rfl (j := 3) rfl ?_
          refine zg_if_ne (tgt := 72) dd_78_61 (by decide) (fun q17 => ?_) (fun q17 => ?_)
          · replace h := z_f h q17
            refine zg_iload_n dd_78_72 rfl (j := 3) rfl ?_
            refine zg_iconst dd_78_73 kI_1 ?_
            refine zg_icmp_ne (tgt := 92) dd_78_74 (by decide) (fun q18 => ?_) (fun q18 => ?_)
            · replace h := z_f h q18
              refine zg_aload_n dd_78_92 rfl (j := 0) rfl ?_
              refine zg_getR dd_78_93 zl_T_58 zCs_0 rfl zCr_0_10 ?_
              obtain ⟨r19, e20, h⟩ := z_bd h
              refine zg_invV_i (av := []) (st := []) (n := 0) dd_78_96 ca_79 zw_758 zw_759 zw_760 zCs_178 zcl_7 rfl (mt_fc_Walker_turns e20) rfl ⟨by decide +kernel, by decide⟩ (Nat.le_of_ble_eq_true rfl) ?_
              obtain rfl := Option.some.inj h
              exact zg_iret dd_78_99 rfl
            · replace h := z_t h q18
              refine zg_aload_n dd_78_77 rfl (j := 0) rfl ?_
              refine zg_getR dd_78_78 zl_T_58 zCs_0 rfl zCr_0_10 ?_
              refine zg_aload_n dd_78_81 rfl (j := 0) rfl ?_
              refine zg_getR dd_78_82 zl_T_12 zCs_0 rfl zCr_0_0 ?_
              refine zg_iload_n dd_78_85 rfl (j := 1) rfl ?_
              obtain ⟨r21, e22, h⟩ := z_bd h
              refine zg_invV_i (av := [.inr (.inr (some 1)), .inl a1]) (st := []) (n := 2) dd_78_86 ca_73 zw_757 zw_730 zw_731 zCs_178 zcl_7 rfl (mt_fc_Walker_hours e22) rfl ⟨by decide +kernel, by decide⟩ (Nat.le_of_ble_eq_true rfl) ?_
              refine zg_goto (tgt := 99) dd_78_89 (by decide) ?_
              obtain rfl := Option.some.inj h
              exact zg_iret dd_78_99 rfl
          · replace h := z_t h q17
            refine zg_aload_n dd_78_64 rfl (j := 0) rfl ?_
            refine zg_getR dd_78_65 zl_T_58 zCs_0 rfl zCr_0_10 ?_
            obtain ⟨r23, e24, h⟩ := z_bd h
            refine zg_invV_i (av := []) (st := []) (n := 0) dd_78_68 ca_72 zw_756 zw_726 zw_727 zCs_178 zcl_7 rfl (mt_fc_Walker_end e24) rfl ⟨by decide +kernel, by decide⟩ (Nat.le_of_ble_eq_true rfl) ?_
            obtain rfl := Option.some.inj h
            exact zg_iret dd_78_71 rfl
        · replace h := z_t h q16
          refine zg_aload_n dd_78_54 rfl (j := 0) rfl ?_
          refine zg_iconst dd_78_55 kI_3 ?_
          obtain ⟨r25, e26, h⟩ := z_bd h
          refine zg_invV_i (av := [.inl (3 : Int32)]) (st := []) (n := 1) dd_78_56 ca_2 zw_430 zw_432 zv_0 zCs_0 zcl_11 rfl (mt_fc_T_refuse e26) rfl ⟨by decide +kernel, by decide⟩ (Nat.le_of_ble_eq_true rfl) ?_
          obtain rfl := Option.some.inj h
          exact zg_iret dd_78_59 rfl
      · replace h := z_t h q13
        refine zg_aload_n dd_78_32 rfl (j := 0) rfl ?_
        refine zg_iconst dd_78_33 kI_1 ?_
        obtain ⟨r27, e28, h⟩ := z_bd h
        refine zg_invV_i (av := [.inl (1 : Int32)]) (st := []) (n := 1) dd_78_34 ca_2 zw_430 zw_432 zv_0 zCs_0 zcl_11 rfl (mt_fc_T_refuse e28) rfl ⟨by decide +kernel, by decide⟩ (Nat.le_of_ble_eq_true rfl) ?_
        obtain rfl := Option.some.inj h
        exact zg_iret dd_78_37 rfl
/-! TurnedLand.stops(0, None) -/
def fc_T_stops (I : zI) (a1 : Int32) : Option (Int32 × zI) :=
  (fc_Walks_has I a1).bind fun r1 =>
  if r1 = 0 then
    (fc_T_refuse I (1 : Int32)).bind fun r9 =>
    some (r9.1, r9.2)
  else
    (fc_Walker_goes I a1 (0 : Int32)).bind fun r4 =>
    if r4.1 = 0 then
      some ((r4.2 178 1), r4.2)
    else
      (fc_T_refuse r4.2 (2 : Int32)).bind fun r7 =>
      some (r7.1, r7.2)
set_option maxRecDepth 20000 in
theorem mt_fc_T_stops {I : zI} {a1 : Int32} {res : (Int32 × zI)} (h : fc_T_stops I a1 = some res) : zM 5 ym_80 [.inr (.inr (some 0)), .inl a1] (zCs, zCr, I) (some (.inl res.1)) (zCs, zCr, res.2) 0 0 := by
  refine zM_of (by decide) (Nat.le_of_ble_eq_true rfl) (lv := [(0, .inr (.inr (some 0))), (1, .inl a1)]) rfl ?_
  rw [fc_T_stops] at h
  refine zg_aload_n dd_80_0 rfl (j := 0) rfl ?_
  refine zg_getR dd_80_1 zl_T_12 zCs_0 rfl zCr_0_0 ?_
  refine zg_getR dd_80_4 zl_T_199 zCs_1 rfl zCr_1_1 ?_
  refine zg_iload_n dd_80_7 rfl (j := 1) rfl ?_
  obtain ⟨r1, e2, h⟩ := z_bd h
  refine zg_invV_i (av := [.inl a1]) (st := []) (n := 1) dd_80_8 ca_69 zw_711 zw_712 zw_713 zCs_7 zcl_8 rfl (mt_fc_Walks_has e2) rfl ⟨by decide +kernel, by decide⟩ (Nat.le_of_ble_eq_true rfl) ?_
  refine zg_if_ne (tgt := 20) dd_80_11 (by decide) (fun q3 => ?_) (fun q3 => ?_)
  · replace h := z_f h q3
    refine zg_aload_n dd_80_20 rfl (j := 0) rfl ?_
    refine zg_getR dd_80_21 zl_T_58 zCs_0 rfl zCr_0_10 ?_
    refine zg_aload_n dd_80_24 rfl (j := 0) rfl ?_
    refine zg_getR dd_80_25 zl_T_12 zCs_0 rfl zCr_0_0 ?_
    refine zg_iload_n dd_80_28 rfl (j := 1) rfl ?_
    refine zg_iconst dd_80_29 kI_0 ?_
    obtain ⟨r4, e5, h⟩ := z_bd h
    refine zg_invV_i (av := [.inr (.inr (some 1)), .inl a1, .inl (0 : Int32)]) (st := []) (n := 3) dd_80_30 ca_71 zw_755 zw_720 zw_721 zCs_178 zcl_7 rfl (mt_fc_Walker_goes e5) rfl ⟨by decide +kernel, by decide⟩ (Nat.le_of_ble_eq_true rfl) ?_
    refine zg_if_eq (tgt := 44) dd_80_33 (by decide) (fun q6 => ?_) (fun q6 => ?_)
    · replace h := z_t h q6
      refine zg_aload_n dd_80_44 rfl (j := 0) rfl ?_
      refine zg_getR dd_80_45 zl_T_58 zCs_0 rfl zCr_0_10 ?_
      refine zg_getI dd_80_48 zl_T_252 zCs_178 rfl ?_
      obtain rfl := Option.some.inj h
      exact zg_iret dd_80_51 rfl
    · replace h := z_f h q6
      refine zg_aload_n dd_80_36 rfl (j := 0) rfl ?_
      refine zg_iconst dd_80_37 kI_2 ?_
      obtain ⟨r7, e8, h⟩ := z_bd h
      refine zg_invV_i (av := [.inl (2 : Int32)]) (st := []) (n := 1) dd_80_38 ca_2 zw_430 zw_432 zv_0 zCs_0 zcl_11 rfl (mt_fc_T_refuse e8) rfl ⟨by decide +kernel, by decide⟩ (Nat.le_of_ble_eq_true rfl) ?_
      refine zg_goto (tgt := 51) dd_80_41 (by decide) ?_
      obtain rfl := Option.some.inj h
      exact zg_iret dd_80_51 rfl
  · replace h := z_t h q3
    refine zg_aload_n dd_80_14 rfl (j := 0) rfl ?_
    refine zg_iconst dd_80_15 kI_1 ?_
    obtain ⟨r9, e10, h⟩ := z_bd h
    refine zg_invV_i (av := [.inl (1 : Int32)]) (st := []) (n := 1) dd_80_16 ca_2 zw_430 zw_432 zv_0 zCs_0 zcl_11 rfl (mt_fc_T_refuse e10) rfl ⟨by decide +kernel, by decide⟩ (Nat.le_of_ble_eq_true rfl) ?_
    obtain rfl := Option.some.inj h
    exact zg_iret dd_80_19 rfl
/-! TurnedLand.person(0, None) -/
def fc_T_person (I : zI) (a1 : Int32) : Option (Int32 × zI) :=
  (fc_Ground_hasPlace I a1).bind fun r1 =>
  if r1 = 0 then
    (fc_T_refuse I (1 : Int32)).bind fun r9 =>
    some (r9.1, r9.2)
  else
    if (I 23 0) < (6 : Int32) then
      z_guard (zb (I 23 0) 6) <|
      z_guard (zb ((zup I 24 (I 23 0).toNatClampNeg a1) 23 0) 6) <|
      some (((zup (zup I 24 (I 23 0).toNatClampNeg a1) 25 ((zup I 24 (I 23 0).toNatClampNeg a1) 23 0).toNatClampNeg (0 : Int32)) 23 0), (zup (zup (zup I 24 (I 23 0).toNatClampNeg a1) 25 ((zup I 24 (I 23 0).toNatClampNeg a1) 23 0).toNatClampNeg (0 : Int32)) 23 0 (((zup (zup I 24 (I 23 0).toNatClampNeg a1) 25 ((zup I 24 (I 23 0).toNatClampNeg a1) 23 0).toNatClampNeg (0 : Int32)) 23 0) + (1 : Int32))))
    else
      (fc_T_refuse I (4 : Int32)).bind fun r7 =>
      some (r7.1, r7.2)
set_option maxRecDepth 20000 in
theorem mt_fc_T_person {I : zI} {a1 : Int32} {res : (Int32 × zI)} (h : fc_T_person I a1 = some res) : zM 3 ym_81 [.inr (.inr (some 0)), .inl a1] (zCs, zCr, I) (some (.inl res.1)) (zCs, zCr, res.2) 0 0 := by
  refine zM_of (by decide) (Nat.le_of_ble_eq_true rfl) (lv := [(0, .inr (.inr (some 0))), (1, .inl a1)]) rfl ?_
  rw [fc_T_person] at h
  refine zg_aload_n dd_81_0 rfl (j := 0) rfl ?_
  refine zg_getR dd_81_1 zl_T_12 zCs_0 rfl zCr_0_0 ?_
  refine zg_getR dd_81_4 zl_T_255 zCs_1 rfl zCr_1_2 ?_
  refine zg_astore_n dd_81_7 rfl (Nat.le_of_ble_eq_true rfl) (lv' := [(2, .inr (.inr (some 23))), (0, .inr (.inr (some 0))), (1, .inl a1)]) rfl ?_
  refine zg_aload_n dd_81_8 rfl (j := 1) rfl ?_
  refine zg_getR dd_81_9 zl_T_12 zCs_0 rfl zCr_0_0 ?_
  refine zg_getR dd_81_12 zl_T_76 zCs_1 rfl zCr_1_0 ?_
  refine zg_iload_n dd_81_15 rfl (j := 2) rfl ?_
  obtain ⟨r1, e2, h⟩ := z_bd h
  refine zg_invV_i (av := [.inl a1]) (st := []) (n := 1) dd_81_16 ca_49 zw_631 zw_632 zw_633 zCs_2 zcl_2 rfl (mt_fc_Ground_hasPlace e2) rfl ⟨by decide +kernel, by decide⟩ (Nat.le_of_ble_eq_true rfl) ?_
  refine zg_if_ne (tgt := 28) dd_81_19 (by decide) (fun q3 => ?_) (fun q3 => ?_)
  · replace h := z_f h q3
    refine zg_aload_n dd_81_28 rfl (j := 0) rfl ?_
    refine zg_getI dd_81_29 zl_T_259 zCs_23 rfl ?_
    refine zg_bipush dd_81_32 kB_6 ?_
    refine zg_icmp_lt (tgt := 43) dd_81_34 (by decide) (fun q4 => ?_) (fun q4 => ?_)
    · replace h := z_t h q4
      refine zg_aload_n dd_81_43 rfl (j := 0) rfl ?_
      refine zg_getR dd_81_44 zl_T_264 zCs_23 rfl zCr_23_1 ?_
      refine zg_aload_n dd_81_47 rfl (j := 0) rfl ?_
      refine zg_getI dd_81_48 zl_T_259 zCs_23 rfl ?_
      refine zg_iload_n dd_81_51 rfl (j := 2) rfl ?_
      obtain ⟨g5, h⟩ := z_gd h
      refine zg_iast dd_81_52 zCs_24 g5 ?_
      refine zg_aload_n dd_81_53 rfl (j := 0) rfl ?_
      refine zg_getR dd_81_54 zl_T_267 zCs_23 rfl zCr_23_2 ?_
      refine zg_aload_n dd_81_57 rfl (j := 0) rfl ?_
      refine zg_getI dd_81_58 zl_T_259 zCs_23 rfl ?_
      refine zg_iconst dd_81_61 kI_0 ?_
      obtain ⟨g6, h⟩ := z_gd h
      refine zg_iast dd_81_62 zCs_25 g6 ?_
      refine zg_aload_n dd_81_63 rfl (j := 0) rfl ?_
      refine zg_dup dd_81_64 rfl ?_
      refine zg_getI dd_81_65 zl_T_259 zCs_23 rfl ?_
      refine zg_dup_x1 dd_81_68 rfl rfl ?_
      refine zg_iconst dd_81_69 kI_1 ?_
      refine zg_iadd dd_81_70 ?_
      refine zg_putI dd_81_71 zp_T_259 zCs_23 rfl (zSt_int _) ?_
      obtain rfl := Option.some.inj h
      exact zg_iret dd_81_74 rfl
    · replace h := z_f h q4
      refine zg_aload_n dd_81_37 rfl (j := 1) rfl ?_
      refine zg_iconst dd_81_38 kI_4 ?_
      obtain ⟨r7, e8, h⟩ := z_bd h
      refine zg_invV_i (av := [.inl (4 : Int32)]) (st := []) (n := 1) dd_81_39 ca_2 zw_430 zw_432 zv_0 zCs_0 zcl_11 rfl (mt_fc_T_refuse e8) rfl ⟨by decide +kernel, by decide⟩ (Nat.le_of_ble_eq_true rfl) ?_
      obtain rfl := Option.some.inj h
      exact zg_iret dd_81_42 rfl
  · replace h := z_t h q3
    refine zg_aload_n dd_81_22 rfl (j := 1) rfl ?_
    refine zg_iconst dd_81_23 kI_1 ?_
    obtain ⟨r9, e10, h⟩ := z_bd h
    refine zg_invV_i (av := [.inl (1 : Int32)]) (st := []) (n := 1) dd_81_24 ca_2 zw_430 zw_432 zv_0 zCs_0 zcl_11 rfl (mt_fc_T_refuse e10) rfl ⟨by decide +kernel, by decide⟩ (Nat.le_of_ble_eq_true rfl) ?_
    obtain rfl := Option.some.inj h
    exact zg_iret dd_81_27 rfl
/-! TurnedLand$Folk.hasPerson[23, None] -/
def fc_Folk_hasPerson (I : zI) (a1 : Int32) : Option Int32 :=
  (fc_T_within I a1 (0 : Int32) ((I 23 0) - (1 : Int32))).bind fun r1 =>
  z_guard (zbb r1) <|
  some r1
set_option maxRecDepth 20000 in
theorem mt_fc_Folk_hasPerson {I : zI} {a1 : Int32} {res : Int32} (h : fc_Folk_hasPerson I a1 = some res) : zM 2 ym_83 [.inr (.inr (some 23)), .inl a1] (zCs, zCr, I) (some (.inl res)) (zCs, zCr, I) 0 0 := by
  refine zM_of (by decide) (Nat.le_of_ble_eq_true rfl) (lv := [(0, .inr (.inr (some 23))), (1, .inl a1)]) rfl ?_
  rw [fc_Folk_hasPerson] at h
  refine zg_iload_n dd_83_0 rfl (j := 1) rfl ?_
  refine zg_iconst dd_83_1 kI_0 ?_
  refine zg_aload_n dd_83_2 rfl (j := 0) rfl ?_
  refine zg_getI dd_83_3 zl_Folk_9 zCs_23 rfl ?_
  refine zg_iconst dd_83_6 kI_1 ?_
  refine zg_isub dd_83_7 ?_
  obtain ⟨r1, e2, h⟩ := z_bd h
  refine zg_invSN_i (av := [.inl a1, .inl (0 : Int32), .inl ((I 23 0) - (1 : Int32))]) (st := []) (n := 3) dd_83_8 ca_1 (List.mem_of_getElem? (i := 15) rfl) zw_428 (mt_fc_T_within e2) rfl ⟨by decide +kernel, by decide⟩ (Nat.le_of_ble_eq_true rfl) ?_
  obtain ⟨g3, h⟩ := z_gd h
  obtain rfl := Option.some.inj h
  exact zg_zret dd_83_11 rfl (zSt_bb g3).1
/-! TurnedLand.personIs(0, None, None) -/
def fc_T_personIs (I : zI) (a1 : Int32) (a2 : Int32) : Option (Int32 × zI) :=
  (fc_Folk_hasPerson I a1).bind fun r1 =>
  if r1 = 0 then
    (fc_T_refuse I (1 : Int32)).bind fun r4 =>
    some (r4.1, r4.2)
  else
    (fc_T_within I a2 (0 : Int32) (1 : Int32)).bind fun r6 =>
    if r6 = 0 then
      (fc_T_refuse I (1 : Int32)).bind fun r12 =>
      some (r12.1, r12.2)
    else
      if a2 = 0 then
        z_guard (zb a1 6) <|
        some ((I 24 a1.toNatClampNeg), I)
      else
        z_guard (zb a1 6) <|
        some ((I 25 a1.toNatClampNeg), I)
set_option maxRecDepth 20000 in
theorem mt_fc_T_personIs {I : zI} {a1 : Int32} {a2 : Int32} {res : (Int32 × zI)} (h : fc_T_personIs I a1 a2 = some res) : zM 3 ym_82 [.inr (.inr (some 0)), .inl a1, .inl a2] (zCs, zCr, I) (some (.inl res.1)) (zCs, zCr, res.2) 0 0 := by
  refine zM_of (by decide) (Nat.le_of_ble_eq_true rfl) (lv := [(0, .inr (.inr (some 0))), (1, .inl a1), (2, .inl a2)]) rfl ?_
  rw [fc_T_personIs] at h
  refine zg_aload_n dd_82_0 rfl (j := 0) rfl ?_
  refine zg_getR dd_82_1 zl_T_12 zCs_0 rfl zCr_0_0 ?_
  refine zg_getR dd_82_4 zl_T_255 zCs_1 rfl zCr_1_2 ?_
  refine zg_astore_n dd_82_7 rfl (Nat.le_of_ble_eq_true rfl) (lv' := [(3, .inr (.inr (some 23))), (0, .inr (.inr (some 0))), (1, .inl a1), (2, .inl a2)]) rfl ?_
  refine zg_aload_n dd_82_8 rfl (j := 0) rfl ?_
  refine zg_iload_n dd_82_9 rfl (j := 2) rfl ?_
  obtain ⟨r1, e2, h⟩ := z_bd h
  refine zg_invV_i (av := [.inl a1]) (st := []) (n := 1) dd_82_10 ca_83 zw_774 zw_775 zw_776 zCs_23 zcl_1 rfl (mt_fc_Folk_hasPerson e2) rfl ⟨by decide +kernel, by decide⟩ (Nat.le_of_ble_eq_true rfl) ?_
  refine zg_if_eq (tgt := 25) dd_82_13 (by decide) (fun q3 => ?_) (fun q3 => ?_)
  · replace h := z_t h q3
    refine zg_aload_n dd_82_25 rfl (j := 1) rfl ?_
    refine zg_iconst dd_82_26 kI_1 ?_
    obtain ⟨r4, e5, h⟩ := z_bd h
    refine zg_invV_i (av := [.inl (1 : Int32)]) (st := []) (n := 1) dd_82_27 ca_2 zw_430 zw_432 zv_0 zCs_0 zcl_11 rfl (mt_fc_T_refuse e5) rfl ⟨by decide +kernel, by decide⟩ (Nat.le_of_ble_eq_true rfl) ?_
    obtain rfl := Option.some.inj h
    exact zg_iret dd_82_30 rfl
  · replace h := z_f h q3
    refine zg_iload_n dd_82_16 rfl (j := 3) rfl ?_
    refine zg_iconst dd_82_17 kI_0 ?_
    refine zg_iconst dd_82_18 kI_1 ?_
    obtain ⟨r6, e7, h⟩ := z_bd h
    refine zg_invS_i (av := [.inl a2, .inl (0 : Int32), .inl (1 : Int32)]) (st := []) (n := 3) dd_82_19 ca_1 zw_427 zw_428 (mt_fc_T_within e7) rfl ⟨by decide +kernel, by decide⟩ (Nat.le_of_ble_eq_true rfl) ?_
    refine zg_if_ne (tgt := 31) dd_82_22 (by decide) (fun q8 => ?_) (fun q8 => ?_)
    · replace h := z_f h q8
      refine zg_iload_n dd_82_31 rfl (j := 3) rfl ?_
      refine zg_if_ne (tgt := 44) dd_82_32 (by decide) (fun q9 => ?_) (fun q9 => ?_)
      · replace h := z_f h q9
        refine zg_aload_n dd_82_44 rfl (j := 0) rfl ?_
        refine zg_getR dd_82_45 zl_T_267 zCs_23 rfl zCr_23_2 ?_
        refine zg_iload_n dd_82_48 rfl (j := 2) rfl ?_
        obtain ⟨g10, h⟩ := z_gd h
        refine zg_iald dd_82_49 zCs_25 g10 ?_
        obtain rfl := Option.some.inj h
        exact zg_iret dd_82_50 rfl
      · replace h := z_t h q9
        refine zg_aload_n dd_82_35 rfl (j := 0) rfl ?_
        refine zg_getR dd_82_36 zl_T_264 zCs_23 rfl zCr_23_1 ?_
        refine zg_iload_n dd_82_39 rfl (j := 2) rfl ?_
        obtain ⟨g11, h⟩ := z_gd h
        refine zg_iald dd_82_40 zCs_24 g11 ?_
        refine zg_goto (tgt := 50) dd_82_41 (by decide) ?_
        obtain rfl := Option.some.inj h
        exact zg_iret dd_82_50 rfl
    · replace h := z_t h q8
      refine zg_aload_n dd_82_25 rfl (j := 1) rfl ?_
      refine zg_iconst dd_82_26 kI_1 ?_
      obtain ⟨r12, e13, h⟩ := z_bd h
      refine zg_invV_i (av := [.inl (1 : Int32)]) (st := []) (n := 1) dd_82_27 ca_2 zw_430 zw_432 zv_0 zCs_0 zcl_11 rfl (mt_fc_T_refuse e13) rfl ⟨by decide +kernel, by decide⟩ (Nat.le_of_ble_eq_true rfl) ?_
      obtain rfl := Option.some.inj h
      exact zg_iret dd_82_30 rfl
/-! TurnedLand$World.crosses[1, None, None] -/
def fc_World_crosses (I : zI) (a1 : Int32) (a2 : Int32) : Option (Int32 × zI) :=
  z_guard (zb a1 6) <|
  (fc_Ground_comesTo I (I 24 a1.toNatClampNeg) a2).bind fun r2 =>
  if r2 = (-1 : Int32) then
    some ((0 : Int32), I)
  else
    z_guard (zb a1 6) <|
    (fc_World_hours I (I 24 a1.toNatClampNeg) a2).bind fun r6 =>
    (fc_JMath_min r6.2 (999999 : Int32) ((I 25 a1.toNatClampNeg) + r6.1)).bind fun r8 =>
    z_guard (zb a1 6) <|
    z_guard (zb a1 6) <|
    some ((1 : Int32), (zup (zup r6.2 25 a1.toNatClampNeg r8) 24 a1.toNatClampNeg r2))
set_option maxRecDepth 20000 in
theorem mt_fc_World_crosses {I : zI} {a1 : Int32} {a2 : Int32} {res : (Int32 × zI)} (h : fc_World_crosses I a1 a2 = some res) : zM 5 ym_85 [.inr (.inr (some 1)), .inl a1, .inl a2] (zCs, zCr, I) (some (.inl res.1)) (zCs, zCr, res.2) 0 0 := by
  refine zM_of (by decide) (Nat.le_of_ble_eq_true rfl) (lv := [(0, .inr (.inr (some 1))), (1, .inl a1), (2, .inl a2)]) rfl ?_
  rw [fc_World_crosses] at h
  refine zg_aload_n dd_85_0 rfl (j := 0) rfl ?_
  refine zg_getR dd_85_1 zl_World_28 zCs_1 rfl zCr_1_2 ?_
  refine zg_getR dd_85_4 zl_World_114 zCs_23 rfl zCr_23_1 ?_
  refine zg_iload_n dd_85_7 rfl (j := 1) rfl ?_
  obtain ⟨g1, h⟩ := z_gd h
  refine zg_iald dd_85_8 zCs_24 g1 ?_
  refine zg_istore_n dd_85_9 rfl (Nat.le_of_ble_eq_true rfl) (lv' := [(3, .inl (I 24 a1.toNatClampNeg)), (0, .inr (.inr (some 1))), (1, .inl a1), (2, .inl a2)]) rfl ?_
  refine zg_aload_n dd_85_10 rfl (j := 1) rfl ?_
  refine zg_getR dd_85_11 zl_World_12 zCs_1 rfl zCr_1_0 ?_
  refine zg_iload_n dd_85_14 rfl (j := 0) rfl ?_
  refine zg_iload_n dd_85_15 rfl (j := 3) rfl ?_
  obtain ⟨r2, e3, h⟩ := z_bd h
  refine zg_invV_i (av := [.inl (I 24 a1.toNatClampNeg), .inl a2]) (st := []) (n := 2) dd_85_16 ca_51 zw_648 zw_640 zw_641 zCs_2 zcl_2 rfl (mt_fc_Ground_comesTo e3) rfl ⟨by decide +kernel, by decide⟩ (Nat.le_of_ble_eq_true rfl) ?_
  refine zg_istore dd_85_19 (Nat.le_of_ble_eq_true rfl) (lv' := [(4, .inl r2), (3, .inl (I 24 a1.toNatClampNeg)), (0, .inr (.inr (some 1))), (1, .inl a1), (2, .inl a2)]) rfl ?_
  refine zg_iload dd_85_21 (j := 0) rfl ?_
  refine zg_iconst dd_85_23 kI_m1 ?_
  refine zg_icmp_ne (tgt := 29) dd_85_24 (by decide) (fun q4 => ?_) (fun q4 => ?_)
  · replace h := z_f h q4
    refine zg_aload_n dd_85_29 rfl (j := 2) rfl ?_
    refine zg_getR dd_85_30 zl_World_28 zCs_1 rfl zCr_1_2 ?_
    refine zg_getR dd_85_33 zl_World_117 zCs_23 rfl zCr_23_2 ?_
    refine zg_iload_n dd_85_36 rfl (j := 3) rfl ?_
    refine zg_ldc dd_85_37 zw_787 ?_
    refine zg_aload_n dd_85_39 rfl (j := 2) rfl ?_
    refine zg_getR dd_85_40 zl_World_28 zCs_1 rfl zCr_1_2 ?_
    refine zg_getR dd_85_43 zl_World_117 zCs_23 rfl zCr_23_2 ?_
    refine zg_iload_n dd_85_46 rfl (j := 3) rfl ?_
    obtain ⟨g5, h⟩ := z_gd h
    refine zg_iald dd_85_47 zCs_25 g5 ?_
    refine zg_aload_n dd_85_48 rfl (j := 2) rfl ?_
    refine zg_iload_n dd_85_49 rfl (j := 1) rfl ?_
    refine zg_iload_n dd_85_50 rfl (j := 4) rfl ?_
    obtain ⟨r6, e7, h⟩ := z_bd h
    refine zg_invV_i (av := [.inl (I 24 a1.toNatClampNeg), .inl a2]) (st := [.inl (I 25 a1.toNatClampNeg), .inl (999999 : Int32), .inl a1, .inr (.inr (some 25))]) (n := 2) dd_85_51 ca_52 zw_788 zw_645 zw_646 zCs_1 zcl_10 rfl (mt_fc_World_hours e7) rfl ⟨by decide +kernel, by decide⟩ (Nat.le_of_ble_eq_true rfl) ?_
    refine zg_iadd dd_85_54 ?_
    obtain ⟨r8, e9, h⟩ := z_bd h
    refine zg_invS_i (av := [.inl (999999 : Int32), .inl ((I 25 a1.toNatClampNeg) + r6.1)]) (st := [.inl a1, .inr (.inr (some 25))]) (n := 2) dd_85_55 ca_58 zw_789 zw_668 (mt_fc_JMath_min e9) rfl ⟨by decide +kernel, by decide⟩ (Nat.le_of_ble_eq_true rfl) ?_
    obtain ⟨g10, h⟩ := z_gd h
    refine zg_iast dd_85_58 zCs_25 g10 ?_
    refine zg_aload_n dd_85_59 rfl (j := 2) rfl ?_
    refine zg_getR dd_85_60 zl_World_28 zCs_1 rfl zCr_1_2 ?_
    refine zg_getR dd_85_63 zl_World_114 zCs_23 rfl zCr_23_1 ?_
    refine zg_iload_n dd_85_66 rfl (j := 3) rfl ?_
    refine zg_iload dd_85_67 (j := 0) rfl ?_
    obtain ⟨g11, h⟩ := z_gd h
    refine zg_iast dd_85_69 zCs_24 g11 ?_
    refine zg_iconst dd_85_70 kI_1 ?_
    obtain rfl := Option.some.inj h
    exact zg_zret dd_85_71 rfl zSt_b1.1
  · replace h := z_t h q4
    refine zg_iconst dd_85_27 kI_0 ?_
    obtain rfl := Option.some.inj h
    exact zg_zret dd_85_28 rfl zSt_b0.1
/-! TurnedLand.cross(0, None, None) -/
def fc_T_cross (I : zI) (a1 : Int32) (a2 : Int32) : Option (Int32 × zI) :=
  (fc_Folk_hasPerson I a1).bind fun r1 =>
  if r1 = 0 then
    (fc_T_refuse I (1 : Int32)).bind fun r4 =>
    some (r4.1, r4.2)
  else
    (fc_T_within I a2 (0 : Int32) (3 : Int32)).bind fun r6 =>
    if r6 = 0 then
      (fc_T_refuse I (1 : Int32)).bind fun r15 =>
      some (r15.1, r15.2)
    else
      (fc_World_crosses I a1 a2).bind fun r9 =>
      if r9.1 = 0 then
        (fc_T_refuse r9.2 (3 : Int32)).bind fun r13 =>
        some (r13.1, r13.2)
      else
        z_guard (zb a1 6) <|
        some ((r9.2 24 a1.toNatClampNeg), r9.2)
set_option maxRecDepth 20000 in
theorem mt_fc_T_cross {I : zI} {a1 : Int32} {a2 : Int32} {res : (Int32 × zI)} (h : fc_T_cross I a1 a2 = some res) : zM 6 ym_84 [.inr (.inr (some 0)), .inl a1, .inl a2] (zCs, zCr, I) (some (.inl res.1)) (zCs, zCr, res.2) 0 0 := by
  refine zM_of (by decide) (Nat.le_of_ble_eq_true rfl) (lv := [(0, .inr (.inr (some 0))), (1, .inl a1), (2, .inl a2)]) rfl ?_
  rw [fc_T_cross] at h
  refine zg_aload_n dd_84_0 rfl (j := 0) rfl ?_
  refine zg_getR dd_84_1 zl_T_12 zCs_0 rfl zCr_0_0 ?_
  refine zg_getR dd_84_4 zl_T_255 zCs_1 rfl zCr_1_2 ?_
  refine zg_iload_n dd_84_7 rfl (j := 1) rfl ?_
  obtain ⟨r1, e2, h⟩ := z_bd h
  refine zg_invV_i (av := [.inl a1]) (st := []) (n := 1) dd_84_8 ca_83 zw_774 zw_775 zw_776 zCs_23 zcl_1 rfl (mt_fc_Folk_hasPerson e2) rfl ⟨by decide +kernel, by decide⟩ (Nat.le_of_ble_eq_true rfl) ?_
  refine zg_if_eq (tgt := 23) dd_84_11 (by decide) (fun q3 => ?_) (fun q3 => ?_)
  · replace h := z_t h q3
    refine zg_aload_n dd_84_23 rfl (j := 0) rfl ?_
    refine zg_iconst dd_84_24 kI_1 ?_
    obtain ⟨r4, e5, h⟩ := z_bd h
    refine zg_invV_i (av := [.inl (1 : Int32)]) (st := []) (n := 1) dd_84_25 ca_2 zw_430 zw_432 zv_0 zCs_0 zcl_11 rfl (mt_fc_T_refuse e5) rfl ⟨by decide +kernel, by decide⟩ (Nat.le_of_ble_eq_true rfl) ?_
    obtain rfl := Option.some.inj h
    exact zg_iret dd_84_28 rfl
  · replace h := z_f h q3
    refine zg_iload_n dd_84_14 rfl (j := 2) rfl ?_
    refine zg_iconst dd_84_15 kI_0 ?_
    refine zg_iconst dd_84_16 kI_3 ?_
    obtain ⟨r6, e7, h⟩ := z_bd h
    refine zg_invS_i (av := [.inl a2, .inl (0 : Int32), .inl (3 : Int32)]) (st := []) (n := 3) dd_84_17 ca_1 zw_427 zw_428 (mt_fc_T_within e7) rfl ⟨by decide +kernel, by decide⟩ (Nat.le_of_ble_eq_true rfl) ?_
    refine zg_if_ne (tgt := 29) dd_84_20 (by decide) (fun q8 => ?_) (fun q8 => ?_)
    · replace h := z_f h q8
      refine zg_aload_n dd_84_29 rfl (j := 0) rfl ?_
      refine zg_getR dd_84_30 zl_T_12 zCs_0 rfl zCr_0_0 ?_
      refine zg_iload_n dd_84_33 rfl (j := 1) rfl ?_
      refine zg_iload_n dd_84_34 rfl (j := 2) rfl ?_
      obtain ⟨r9, e10, h⟩ := z_bd h
      refine zg_invV_i (av := [.inl a1, .inl a2]) (st := []) (n := 2) dd_84_35 ca_85 zw_783 zw_784 zw_785 zCs_1 zcl_10 rfl (mt_fc_World_crosses e10) rfl ⟨by decide +kernel, by decide⟩ (Nat.le_of_ble_eq_true rfl) ?_
      refine zg_if_ne (tgt := 47) dd_84_38 (by decide) (fun q11 => ?_) (fun q11 => ?_)
      · replace h := z_f h q11
        refine zg_aload_n dd_84_47 rfl (j := 0) rfl ?_
        refine zg_getR dd_84_48 zl_T_12 zCs_0 rfl zCr_0_0 ?_
        refine zg_getR dd_84_51 zl_T_255 zCs_1 rfl zCr_1_2 ?_
        refine zg_getR dd_84_54 zl_T_264 zCs_23 rfl zCr_23_1 ?_
        refine zg_iload_n dd_84_57 rfl (j := 1) rfl ?_
        obtain ⟨g12, h⟩ := z_gd h
        refine zg_iald dd_84_58 zCs_24 g12 ?_
        obtain rfl := Option.some.inj h
        exact zg_iret dd_84_59 rfl
      · replace h := z_t h q11
        refine zg_aload_n dd_84_41 rfl (j := 0) rfl ?_
        refine zg_iconst dd_84_42 kI_3 ?_
        obtain ⟨r13, e14, h⟩ := z_bd h
        refine zg_invV_i (av := [.inl (3 : Int32)]) (st := []) (n := 1) dd_84_43 ca_2 zw_430 zw_432 zv_0 zCs_0 zcl_11 rfl (mt_fc_T_refuse e14) rfl ⟨by decide +kernel, by decide⟩ (Nat.le_of_ble_eq_true rfl) ?_
        obtain rfl := Option.some.inj h
        exact zg_iret dd_84_46 rfl
    · replace h := z_t h q8
      refine zg_aload_n dd_84_23 rfl (j := 0) rfl ?_
      refine zg_iconst dd_84_24 kI_1 ?_
      obtain ⟨r15, e16, h⟩ := z_bd h
      refine zg_invV_i (av := [.inl (1 : Int32)]) (st := []) (n := 1) dd_84_25 ca_2 zw_430 zw_432 zv_0 zCs_0 zcl_11 rfl (mt_fc_T_refuse e16) rfl ⟨by decide +kernel, by decide⟩ (Nat.le_of_ble_eq_true rfl) ?_
      obtain rfl := Option.some.inj h
      exact zg_iret dd_84_28 rfl
/-! TurnedLand$World.draw[1] -/
def fc_World_draw (I : zI) : Option (Int32 × zI) :=
  some ((zush ((zup I 1 10 (((I 1 10) * (1103515245 : Int32)) + (12345 : Int32))) 1 10) (8 : Int32)), (zup I 1 10 (((I 1 10) * (1103515245 : Int32)) + (12345 : Int32))))
set_option maxRecDepth 20000 in
theorem mt_fc_World_draw {I : zI} {res : (Int32 × zI)} (h : fc_World_draw I = some res) : zM 1 ym_87 [.inr (.inr (some 1))] (zCs, zCr, I) (some (.inl res.1)) (zCs, zCr, res.2) 0 0 := by
  refine zM_of (by decide) (Nat.le_of_ble_eq_true rfl) (lv := [(0, .inr (.inr (some 1)))]) rfl ?_
  rw [fc_World_draw] at h
  refine zg_aload_n dd_87_0 rfl (j := 0) rfl ?_
  refine zg_aload_n dd_87_1 rfl (j := 0) rfl ?_
  refine zg_getI dd_87_2 zl_World_63 zCs_1 rfl ?_
  refine zg_ldc dd_87_5 zw_798 ?_
  refine zg_imul dd_87_7 ?_
  refine zg_sipush dd_87_8 kS_12345 ?_
  refine zg_iadd dd_87_11 ?_
  refine zg_putI dd_87_12 zp_World_63 zCs_1 rfl (zSt_int _) ?_
  refine zg_aload_n dd_87_15 rfl (j := 0) rfl ?_
  refine zg_getI dd_87_16 zl_World_63 zCs_1 rfl ?_
  refine zg_bipush dd_87_19 kB_8 ?_
  refine zg_iushr dd_87_21 ?_
  obtain rfl := Option.some.inj h
  exact zg_iret dd_87_22 rfl
/-! TurnedLand.stroll(0, None, None) -/
def fc_T_stroll_L32 : Nat → Int32 → Int32 → Int32 → zI → Option (Int32 × zI)
  | 0, _, _, _, _ => none
  | nf + 1, v1, v2, v3, I =>
    if v2 ≤ v3 then
      z_guard (zb v1 6) <|
      some ((I 24 v1.toNatClampNeg), I)
    else
      (fc_World_draw I).bind fun r11 =>
      (fc_World_crosses r11.2 v1 (r11.1 % (4 : Int32))).bind fun r13 =>
      fc_T_stroll_L32 nf v1 v2 (v3 + (1 : Int32)) r13.2
def fc_T_stroll (I : zI) (a1 : Int32) (a2 : Int32) : Option (Int32 × zI) :=
  (fc_Folk_hasPerson I a1).bind fun r1 =>
  if r1 = 0 then
    (fc_T_refuse I (1 : Int32)).bind fun r4 =>
    some (r4.1, r4.2)
  else
    (fc_T_within I a2 (1 : Int32) (60 : Int32)).bind fun r6 =>
    if r6 = 0 then
      (fc_T_refuse I (1 : Int32)).bind fun r15 =>
      some (r15.1, r15.2)
    else
      fc_T_stroll_L32
        100 a1 a2 (0 : Int32) I
set_option maxRecDepth 20000 in
theorem lt_fc_T_stroll_L32 {res : (Int32 × zI)} : ∀ (nf : Nat) (v1 : Int32) (v2 : Int32) (v3 : Int32) (I : zI), fc_T_stroll_L32 nf v1 v2 v3 I = some res → zG 6 ym_86 0 0 (some (.inl res.1)) (zCs, zCr, res.2) zCs.length 32 [(0, .inr (.inr (some 0))), (1, .inl v1), (2, .inl v2), (3, .inl v3)] [] (zCs, zCr, I) 0 0 := by
  intro nf
  induction nf with
  | zero =>
    intro v1 v2 v3 I h
    have h2 : none = some res := h
    cases h2
  | succ nf ih =>
    intro v1 v2 v3 I h
    rw [fc_T_stroll_L32] at h
    refine zg_iload_n dd_86_32 rfl (j := 3) rfl ?_
    refine zg_iload_n dd_86_33 rfl (j := 2) rfl ?_
    refine zg_icmp_ge (tgt := 61) dd_86_34 (by decide) (fun q9 => ?_) (fun q9 => ?_)
    · replace h := z_t h q9
      refine zg_aload_n dd_86_61 rfl (j := 0) rfl ?_
      refine zg_getR dd_86_62 zl_T_12 zCs_0 rfl zCr_0_0 ?_
      refine zg_getR dd_86_65 zl_T_255 zCs_1 rfl zCr_1_2 ?_
      refine zg_getR dd_86_68 zl_T_264 zCs_23 rfl zCr_23_1 ?_
      refine zg_iload_n dd_86_71 rfl (j := 1) rfl ?_
      obtain ⟨g10, h⟩ := z_gd h
      refine zg_iald dd_86_72 zCs_24 g10 ?_
      obtain rfl := Option.some.inj h
      exact zg_iret dd_86_73 rfl
    · replace h := z_f h q9
      refine zg_aload_n dd_86_37 rfl (j := 0) rfl ?_
      refine zg_getR dd_86_38 zl_T_12 zCs_0 rfl zCr_0_0 ?_
      refine zg_iload_n dd_86_41 rfl (j := 1) rfl ?_
      refine zg_aload_n dd_86_42 rfl (j := 0) rfl ?_
      refine zg_getR dd_86_43 zl_T_12 zCs_0 rfl zCr_0_0 ?_
      obtain ⟨r11, e12, h⟩ := z_bd h
      refine zg_invV_i (av := []) (st := [.inl v1, .inr (.inr (some 1))]) (n := 0) dd_86_46 ca_87 zw_794 zw_795 zw_796 zCs_1 zcl_10 rfl (mt_fc_World_draw e12) rfl ⟨by decide +kernel, by decide⟩ (Nat.le_of_ble_eq_true rfl) ?_
      refine zg_iconst dd_86_49 kI_4 ?_
      refine zg_irem dd_86_50 (by decide) ?_
      obtain ⟨r13, e14, h⟩ := z_bd h
      refine zg_invV_i (av := [.inl v1, .inl (r11.1 % (4 : Int32))]) (st := []) (n := 2) dd_86_51 ca_85 zw_783 zw_784 zw_785 zCs_1 zcl_10 rfl (mt_fc_World_crosses e14) rfl ⟨by decide +kernel, by decide⟩ (Nat.le_of_ble_eq_true rfl) ?_
      refine zg_pop dd_86_54 rfl ?_
      refine zg_iinc dd_86_55 (j := 3) rfl (v := (v3 + (1 : Int32))) (by rw [kI_1]) (Nat.le_of_ble_eq_true rfl) (lv' := [(3, .inl (v3 + (1 : Int32))), (0, .inr (.inr (some 0))), (1, .inl v1), (2, .inl v2)]) rfl ?_
      refine zg_goto (tgt := 32) dd_86_58 (by decide) ?_
      refine zg_sub [1, 2, 3, 0] rfl ?_
      exact ih _ _ _ _ h
set_option maxRecDepth 20000 in
theorem mt_fc_T_stroll {I : zI} {a1 : Int32} {a2 : Int32} {res : (Int32 × zI)} (h : fc_T_stroll I a1 a2 = some res) : zM 6 ym_86 [.inr (.inr (some 0)), .inl a1, .inl a2] (zCs, zCr, I) (some (.inl res.1)) (zCs, zCr, res.2) 0 0 := by
  refine zM_of (by decide) (Nat.le_of_ble_eq_true rfl) (lv := [(0, .inr (.inr (some 0))), (1, .inl a1), (2, .inl a2)]) rfl ?_
  rw [fc_T_stroll] at h
  refine zg_aload_n dd_86_0 rfl (j := 0) rfl ?_
  refine zg_getR dd_86_1 zl_T_12 zCs_0 rfl zCr_0_0 ?_
  refine zg_getR dd_86_4 zl_T_255 zCs_1 rfl zCr_1_2 ?_
  refine zg_iload_n dd_86_7 rfl (j := 1) rfl ?_
  obtain ⟨r1, e2, h⟩ := z_bd h
  refine zg_invV_i (av := [.inl a1]) (st := []) (n := 1) dd_86_8 ca_83 zw_774 zw_775 zw_776 zCs_23 zcl_1 rfl (mt_fc_Folk_hasPerson e2) rfl ⟨by decide +kernel, by decide⟩ (Nat.le_of_ble_eq_true rfl) ?_
  refine zg_if_eq (tgt := 24) dd_86_11 (by decide) (fun q3 => ?_) (fun q3 => ?_)
  · replace h := z_t h q3
    refine zg_aload_n dd_86_24 rfl (j := 0) rfl ?_
    refine zg_iconst dd_86_25 kI_1 ?_
    obtain ⟨r4, e5, h⟩ := z_bd h
    refine zg_invV_i (av := [.inl (1 : Int32)]) (st := []) (n := 1) dd_86_26 ca_2 zw_430 zw_432 zv_0 zCs_0 zcl_11 rfl (mt_fc_T_refuse e5) rfl ⟨by decide +kernel, by decide⟩ (Nat.le_of_ble_eq_true rfl) ?_
    obtain rfl := Option.some.inj h
    exact zg_iret dd_86_29 rfl
  · replace h := z_f h q3
    refine zg_iload_n dd_86_14 rfl (j := 2) rfl ?_
    refine zg_iconst dd_86_15 kI_1 ?_
    refine zg_bipush dd_86_16 kB_60 ?_
    obtain ⟨r6, e7, h⟩ := z_bd h
    refine zg_invS_i (av := [.inl a2, .inl (1 : Int32), .inl (60 : Int32)]) (st := []) (n := 3) dd_86_18 ca_1 zw_427 zw_428 (mt_fc_T_within e7) rfl ⟨by decide +kernel, by decide⟩ (Nat.le_of_ble_eq_true rfl) ?_
    refine zg_if_ne (tgt := 30) dd_86_21 (by decide) (fun q8 => ?_) (fun q8 => ?_)
    · replace h := z_f h q8
      refine zg_iconst dd_86_30 kI_0 ?_
      refine zg_istore_n dd_86_31 rfl (Nat.le_of_ble_eq_true rfl) (lv' := [(3, .inl (0 : Int32)), (0, .inr (.inr (some 0))), (1, .inl a1), (2, .inl a2)]) rfl ?_
      refine zg_sub [1, 2, 3, 0] rfl ?_
      refine lt_fc_T_stroll_L32  _ _ _ _ _ h
    · replace h := z_t h q8
      refine zg_aload_n dd_86_24 rfl (j := 0) rfl ?_
      refine zg_iconst dd_86_25 kI_1 ?_
      obtain ⟨r15, e16, h⟩ := z_bd h
      refine zg_invV_i (av := [.inl (1 : Int32)]) (st := []) (n := 1) dd_86_26 ca_2 zw_430 zw_432 zv_0 zCs_0 zcl_11 rfl (mt_fc_T_refuse e16) rfl ⟨by decide +kernel, by decide⟩ (Nat.le_of_ble_eq_true rfl) ?_
      obtain rfl := Option.some.inj h
      exact zg_iret dd_86_29 rfl
/-! TurnedLand$Ways.survey[141, 1] -/
def fc_Ways_survey_2_L25 (k67 : Int32 → zI → Option zI) : Nat → Int32 → Int32 → zI → Option zI
  | 0, _, _, _ => none
  | nf + 1, v2, v3, I =>
    if (4 : Int32) ≤ v3 then
      k67 v2 I
    else
      z_guard (zb v2 16) <|
      (fc_Ground_comesTo I v2 v3).bind fun r4 =>
      z_guard (zb v3 4) <|
      z_guard (zb v2 16) <|
      (fc_World_hours (zup I (145 + v2.toNatClampNeg) v3.toNatClampNeg r4) v2 v3).bind fun r8 =>
      z_guard (zb v3 4) <|
      fc_Ways_survey_2_L25 k67 nf v2 (v3 + (1 : Int32)) (zup r8.2 (162 + v2.toNatClampNeg) v3.toNatClampNeg r8.1)
def fc_Ways_survey_2_L15 : Nat → Int32 → zI → Option zI
  | 0, _, _ => none
  | nf + 1, v2, I =>
    if (I 141 4) ≤ v2 then
      some I
    else
      fc_Ways_survey_2_L25
        (fun (u11 : Int32) (J12 : zI) =>
          fc_Ways_survey_2_L15 nf (u11 + (1 : Int32)) J12
        )
        100 v2 (0 : Int32) I
def fc_Ways_survey_2 (I : zI) : Option zI :=
  fc_Ways_survey_2_L15
    100 (0 : Int32) (zup I 141 4 ((2 : Int32) * (I 2 0)))
set_option maxRecDepth 20000 in
theorem lt_fc_Ways_survey_2_L25 {res : zI} {k67 : Int32 → zI → Option zI} (hk67 : ∀ (v2 : Int32) (J : zI), k67 v2 J = some res → zG 5 ym_50 0 0 none (zCs, zCr, res) zCs.length 67 [(0, .inr (.inr (some 141))), (1, .inr (.inr (some 1))), (2, .inl v2)] [] (zCs, zCr, J) 0 0) : ∀ (nf : Nat) (v2 : Int32) (v3 : Int32) (I : zI), fc_Ways_survey_2_L25 k67 nf v2 v3 I = some res → zG 5 ym_50 0 0 none (zCs, zCr, res) zCs.length 25 [(0, .inr (.inr (some 141))), (1, .inr (.inr (some 1))), (2, .inl v2), (3, .inl v3)] [] (zCs, zCr, I) 0 0 := by
  intro nf
  induction nf with
  | zero =>
    intro v2 v3 I h
    have h2 : none = some res := h
    cases h2
  | succ nf ih =>
    intro v2 v3 I h
    rw [fc_Ways_survey_2_L25] at h
    refine zg_iload_n dd_50_25 rfl (j := 3) rfl ?_
    refine zg_iconst dd_50_26 kI_4 ?_
    refine zg_icmp_ge (tgt := 67) dd_50_27 (by decide) (fun q2 => ?_) (fun q2 => ?_)
    · replace h := z_t h q2
      refine zg_sub [0, 1, 2] rfl ?_
      exact hk67 _ _ h
    · replace h := z_f h q2
      refine zg_aload_n dd_50_30 rfl (j := 0) rfl ?_
      refine zg_getR dd_50_31 zl_Ways_20 zCs_141 rfl zCr_141_2 ?_
      refine zg_iload_n dd_50_34 rfl (j := 2) rfl ?_
      obtain ⟨g3, h⟩ := z_gd h
      refine zg_aald1 dd_50_35 zCs_144 g3 (zrR_C_144 g3) ?_
      refine zg_iload_n dd_50_36 rfl (j := 3) rfl ?_
      refine zg_aload_n dd_50_37 rfl (j := 1) rfl ?_
      refine zg_getR dd_50_38 zl_Ways_30 zCs_1 rfl zCr_1_0 ?_
      refine zg_iload_n dd_50_41 rfl (j := 2) rfl ?_
      refine zg_iload_n dd_50_42 rfl (j := 3) rfl ?_
      obtain ⟨r4, e5, h⟩ := z_bd h
      refine zg_invV_i (av := [.inl v2, .inl v3]) (st := [.inl v3, .inr (.inr (some (145 + v2.toNatClampNeg)))]) (n := 2) dd_50_43 ca_51 zw_639 zw_640 zw_641 zCs_2 zcl_2 rfl (mt_fc_Ground_comesTo e5) rfl ⟨by decide +kernel, by decide⟩ (Nat.le_of_ble_eq_true rfl) ?_
      obtain ⟨g6, h⟩ := z_gd h
      refine zg_iast dd_50_46 (zrS_C_144 g3) g6 ?_
      refine zg_aload_n dd_50_47 rfl (j := 0) rfl ?_
      refine zg_getR dd_50_48 zl_Ways_23 zCs_141 rfl zCr_141_3 ?_
      refine zg_iload_n dd_50_51 rfl (j := 2) rfl ?_
      obtain ⟨g7, h⟩ := z_gd h
      refine zg_aald1 dd_50_52 zCs_161 g7 (zrR_C_161 g7) ?_
      refine zg_iload_n dd_50_53 rfl (j := 3) rfl ?_
      refine zg_aload_n dd_50_54 rfl (j := 1) rfl ?_
      refine zg_iload_n dd_50_55 rfl (j := 2) rfl ?_
      refine zg_iload_n dd_50_56 rfl (j := 3) rfl ?_
      obtain ⟨r8, e9, h⟩ := z_bd h
      refine zg_invV_i (av := [.inl v2, .inl v3]) (st := [.inl v3, .inr (.inr (some (162 + v2.toNatClampNeg)))]) (n := 2) dd_50_57 ca_52 zw_644 zw_645 zw_646 zCs_1 zcl_10 rfl (mt_fc_World_hours e9) rfl ⟨by decide +kernel, by decide⟩ (Nat.le_of_ble_eq_true rfl) ?_
      obtain ⟨g10, h⟩ := z_gd h
      refine zg_iast dd_50_60 (zrS_C_161 g7) g10 ?_
      refine zg_iinc dd_50_61 (j := 3) rfl (v := (v3 + (1 : Int32))) (by rw [kI_1]) (Nat.le_of_ble_eq_true rfl) (lv' := [(3, .inl (v3 + (1 : Int32))), (0, .inr (.inr (some 141))), (1, .inr (.inr (some 1))), (2, .inl v2)]) rfl ?_
      refine zg_goto (tgt := 25) dd_50_64 (by decide) ?_
      refine zg_sub [1, 2, 3, 0] rfl ?_
      exact ih _ _ _ h
set_option maxRecDepth 20000 in
theorem lt_fc_Ways_survey_2_L15 {res : zI} : ∀ (nf : Nat) (v2 : Int32) (I : zI), fc_Ways_survey_2_L15 nf v2 I = some res → zG 5 ym_50 0 0 none (zCs, zCr, res) zCs.length 15 [(0, .inr (.inr (some 141))), (1, .inr (.inr (some 1))), (2, .inl v2)] [] (zCs, zCr, I) 0 0 := by
  intro nf
  induction nf with
  | zero =>
    intro v2 I h
    have h2 : none = some res := h
    cases h2
  | succ nf ih =>
    intro v2 I h
    rw [fc_Ways_survey_2_L15] at h
    refine zg_iload_n dd_50_15 rfl (j := 2) rfl ?_
    refine zg_aload_n dd_50_16 rfl (j := 0) rfl ?_
    refine zg_getI dd_50_17 zl_Ways_26 zCs_141 rfl ?_
    refine zg_icmp_ge (tgt := 73) dd_50_20 (by decide) (fun q1 => ?_) (fun q1 => ?_)
    · replace h := z_t h q1
      obtain rfl := Option.some.inj h
      exact zg_vret dd_50_73 rfl
    · replace h := z_f h q1
      refine zg_iconst dd_50_23 kI_0 ?_
      refine zg_istore_n dd_50_24 rfl (Nat.le_of_ble_eq_true rfl) (lv' := [(3, .inl (0 : Int32)), (0, .inr (.inr (some 141))), (1, .inr (.inr (some 1))), (2, .inl v2)]) rfl ?_
      refine zg_sub [1, 2, 3, 0] rfl ?_
      refine lt_fc_Ways_survey_2_L25 ?_ _ _ _ _ h
      · intro u11 J12 h
        beta_reduce at h
        refine zg_iinc dd_50_67 (j := 2) rfl (v := (u11 + (1 : Int32))) (by rw [kI_1]) (Nat.le_of_ble_eq_true rfl) (lv' := [(2, .inl (u11 + (1 : Int32))), (0, .inr (.inr (some 141))), (1, .inr (.inr (some 1)))]) rfl ?_
        refine zg_goto (tgt := 15) dd_50_70 (by decide) ?_
        refine zg_sub [1, 2, 0] rfl ?_
        exact ih _ _ h
set_option maxRecDepth 20000 in
theorem mt_fc_Ways_survey_2 {I : zI} {res : zI} (h : fc_Ways_survey_2 I = some res) : zM 5 ym_50 [.inr (.inr (some 141)), .inr (.inr (some 1))] (zCs, zCr, I) none (zCs, zCr, res) 0 0 := by
  refine zM_of (by decide) (Nat.le_of_ble_eq_true rfl) (lv := [(0, .inr (.inr (some 141))), (1, .inr (.inr (some 1)))]) rfl ?_
  rw [fc_Ways_survey_2] at h
  refine zg_aload_n dd_50_0 rfl (j := 0) rfl ?_
  refine zg_iconst dd_50_1 kI_2 ?_
  refine zg_aload_n dd_50_2 rfl (j := 1) rfl ?_
  refine zg_getR dd_50_3 zl_Ways_30 zCs_1 rfl zCr_1_0 ?_
  refine zg_getI dd_50_6 zl_Ways_36 zCs_2 rfl ?_
  refine zg_imul dd_50_9 ?_
  refine zg_putI dd_50_10 zp_Ways_26 zCs_141 rfl (zSt_int _) ?_
  refine zg_iconst dd_50_13 kI_0 ?_
  refine zg_istore_n dd_50_14 rfl (Nat.le_of_ble_eq_true rfl) (lv' := [(2, .inl (0 : Int32)), (0, .inr (.inr (some 141))), (1, .inr (.inr (some 1)))]) rfl ?_
  refine zg_sub [1, 2, 0] rfl ?_
  refine lt_fc_Ways_survey_2_L15  _ _ _ h
/-! TurnedLand$Ways.nearest[141, None] -/
def fc_Ways_nearest_2_L4 (I : zI) : Nat → Int32 → Int32 → Int32 → Option Int32
  | 0, _, _, _ => none
  | nf + 1, v1, v2, v3 =>
    if (I 141 4) ≤ v3 then
      some v2
    else
      if ((v1 >>> (v3 &&& 31)) &&& (1 : Int32)) = (1 : Int32) then
        z_guard (zb v3 16) <|
        if (I 142 v3.toNatClampNeg) < 0 then
          fc_Ways_nearest_2_L4 I nf v1 v2 (v3 + (1 : Int32))
        else
          if v2 = (-1 : Int32) then
            fc_Ways_nearest_2_L4 I nf v1 v3 (v3 + (1 : Int32))
          else
            z_guard (zb v3 16) <|
            z_guard (zb v2 16) <|
            if (I 142 v2.toNatClampNeg) ≤ (I 142 v3.toNatClampNeg) then
              fc_Ways_nearest_2_L4 I nf v1 v2 (v3 + (1 : Int32))
            else
              fc_Ways_nearest_2_L4 I nf v1 v3 (v3 + (1 : Int32))
      else
        fc_Ways_nearest_2_L4 I nf v1 v2 (v3 + (1 : Int32))
def fc_Ways_nearest_2 (I : zI) (a1 : Int32) : Option Int32 :=
  fc_Ways_nearest_2_L4 I
    100 a1 (-1 : Int32) (0 : Int32)
set_option maxRecDepth 20000 in
theorem lt_fc_Ways_nearest_2_L4 {res : Int32} {I : zI} : ∀ (nf : Nat) (v1 : Int32) (v2 : Int32) (v3 : Int32), fc_Ways_nearest_2_L4 I nf v1 v2 v3 = some res → zG 1 ym_61 0 0 (some (.inl res)) (zCs, zCr, I) zCs.length 4 [(0, .inr (.inr (some 141))), (1, .inl v1), (2, .inl v2), (3, .inl v3)] [] (zCs, zCr, I) 0 0 := by
  intro nf
  induction nf with
  | zero =>
    intro v1 v2 v3 h
    have h2 : none = some res := h
    cases h2
  | succ nf ih =>
    intro v1 v2 v3 h
    rw [fc_Ways_nearest_2_L4] at h
    refine zg_iload_n dd_61_4 rfl (j := 3) rfl ?_
    refine zg_aload_n dd_61_5 rfl (j := 0) rfl ?_
    refine zg_getI dd_61_6 zl_Ways_26 zCs_141 rfl ?_
    refine zg_icmp_ge (tgt := 70) dd_61_9 (by decide) (fun q1 => ?_) (fun q1 => ?_)
    · replace h := z_t h q1
      refine zg_iload_n dd_61_70 rfl (j := 2) rfl ?_
      obtain rfl := Option.some.inj h
      exact zg_iret dd_61_71 rfl
    · replace h := z_f h q1
      refine zg_iload_n dd_61_12 rfl (j := 1) rfl ?_
      refine zg_iload_n dd_61_13 rfl (j := 3) rfl ?_
      refine zg_ishr dd_61_14 ?_
      refine zg_iconst dd_61_15 kI_1 ?_
      refine zg_iand dd_61_16 ?_
      refine zg_iconst dd_61_17 kI_1 ?_
      refine zg_icmp_ne (tgt := 34) dd_61_18 (by decide) (fun q2 => ?_) (fun q2 => ?_)
      · replace h := z_f h q2
        refine zg_iconst dd_61_34 kI_0 ?_
        refine zg_istore dd_61_35 (Nat.le_of_ble_eq_true rfl) (lv' := [(4, .inl (0 : Int32)), (0, .inr (.inr (some 141))), (1, .inl v1), (2, .inl v2), (3, .inl v3)]) rfl ?_
        refine zg_iload dd_61_37 (j := 0) rfl ?_
        refine zg_if_eq (tgt := 64) dd_61_39 (by decide) (fun _ => ?_) (fun q3 => absurd q3 (by decide))
        refine zg_iinc dd_61_64 (j := 4) rfl (v := (v3 + (1 : Int32))) (by rw [kI_1]) (Nat.le_of_ble_eq_true rfl) (lv' := [(3, .inl (v3 + (1 : Int32))), (4, .inl (0 : Int32)), (0, .inr (.inr (some 141))), (1, .inl v1), (2, .inl v2)]) rfl ?_
        refine zg_goto (tgt := 4) dd_61_67 (by decide) ?_
        refine zg_sub [2, 3, 4, 0] rfl ?_
        exact ih _ _ _ h
      · replace h := z_t h q2
        refine zg_aload_n dd_61_21 rfl (j := 0) rfl ?_
        refine zg_getR dd_61_22 zl_Ways_9 zCs_141 rfl zCr_141_0 ?_
        refine zg_iload_n dd_61_25 rfl (j := 3) rfl ?_
        obtain ⟨g4, h⟩ := z_gd h
        refine zg_iald dd_61_26 zCs_142 g4 ?_
        refine zg_if_lt (tgt := 34) dd_61_27 (by decide) (fun q5 => ?_) (fun q5 => ?_)
        · replace h := z_t h q5
          refine zg_iconst dd_61_34 kI_0 ?_
          refine zg_istore dd_61_35 (Nat.le_of_ble_eq_true rfl) (lv' := [(4, .inl (0 : Int32)), (0, .inr (.inr (some 141))), (1, .inl v1), (2, .inl v2), (3, .inl v3)]) rfl ?_
          refine zg_iload dd_61_37 (j := 0) rfl ?_
          refine zg_if_eq (tgt := 64) dd_61_39 (by decide) (fun _ => ?_) (fun q6 => absurd q6 (by decide))
          refine zg_iinc dd_61_64 (j := 4) rfl (v := (v3 + (1 : Int32))) (by rw [kI_1]) (Nat.le_of_ble_eq_true rfl) (lv' := [(3, .inl (v3 + (1 : Int32))), (4, .inl (0 : Int32)), (0, .inr (.inr (some 141))), (1, .inl v1), (2, .inl v2)]) rfl ?_
          refine zg_goto (tgt := 4) dd_61_67 (by decide) ?_
          refine zg_sub [2, 3, 4, 0] rfl ?_
          exact ih _ _ _ h
        · replace h := z_f h q5
          refine zg_iconst dd_61_30 kI_1 ?_
          refine zg_goto (tgt := 35) dd_61_31 (by decide) ?_
          refine zg_istore dd_61_35 (Nat.le_of_ble_eq_true rfl) (lv' := [(4, .inl (1 : Int32)), (0, .inr (.inr (some 141))), (1, .inl v1), (2, .inl v2), (3, .inl v3)]) rfl ?_
          refine zg_iload dd_61_37 (j := 0) rfl ?_
          refine zg_if_eq (tgt := 64) dd_61_39 (by decide) (fun q7 => absurd q7 (by decide)) (fun _ => ?_)
          refine zg_iload_n dd_61_42 rfl (j := 3) rfl ?_
          refine zg_iconst dd_61_43 kI_m1 ?_
          refine zg_icmp_eq (tgt := 62) dd_61_44 (by decide) (fun q8 => ?_) (fun q8 => ?_)
          · replace h := z_t h q8
            refine zg_iload_n dd_61_62 rfl (j := 4) rfl ?_
            refine zg_istore_n dd_61_63 rfl (Nat.le_of_ble_eq_true rfl) (lv' := [(2, .inl v3), (4, .inl (1 : Int32)), (0, .inr (.inr (some 141))), (1, .inl v1), (3, .inl v3)]) rfl ?_
            refine zg_iinc dd_61_64 (j := 4) rfl (v := (v3 + (1 : Int32))) (by rw [kI_1]) (Nat.le_of_ble_eq_true rfl) (lv' := [(3, .inl (v3 + (1 : Int32))), (2, .inl v3), (4, .inl (1 : Int32)), (0, .inr (.inr (some 141))), (1, .inl v1)]) rfl ?_
            refine zg_goto (tgt := 4) dd_61_67 (by decide) ?_
            refine zg_sub [3, 4, 1, 0] rfl ?_
            exact ih _ _ _ h
          · replace h := z_f h q8
            refine zg_aload_n dd_61_47 rfl (j := 1) rfl ?_
            refine zg_getR dd_61_48 zl_Ways_9 zCs_141 rfl zCr_141_0 ?_
            refine zg_iload_n dd_61_51 rfl (j := 4) rfl ?_
            obtain ⟨g9, h⟩ := z_gd h
            refine zg_iald dd_61_52 zCs_142 g9 ?_
            refine zg_aload_n dd_61_53 rfl (j := 1) rfl ?_
            refine zg_getR dd_61_54 zl_Ways_9 zCs_141 rfl zCr_141_0 ?_
            refine zg_iload_n dd_61_57 rfl (j := 3) rfl ?_
            obtain ⟨g10, h⟩ := z_gd h
            refine zg_iald dd_61_58 zCs_142 g10 ?_
            refine zg_icmp_ge (tgt := 64) dd_61_59 (by decide) (fun q11 => ?_) (fun q11 => ?_)
            · replace h := z_t h q11
              refine zg_iinc dd_61_64 (j := 4) rfl (v := (v3 + (1 : Int32))) (by rw [kI_1]) (Nat.le_of_ble_eq_true rfl) (lv' := [(3, .inl (v3 + (1 : Int32))), (4, .inl (1 : Int32)), (0, .inr (.inr (some 141))), (1, .inl v1), (2, .inl v2)]) rfl ?_
              refine zg_goto (tgt := 4) dd_61_67 (by decide) ?_
              refine zg_sub [2, 3, 4, 0] rfl ?_
              exact ih _ _ _ h
            · replace h := z_f h q11
              refine zg_iload_n dd_61_62 rfl (j := 4) rfl ?_
              refine zg_istore_n dd_61_63 rfl (Nat.le_of_ble_eq_true rfl) (lv' := [(2, .inl v3), (4, .inl (1 : Int32)), (0, .inr (.inr (some 141))), (1, .inl v1), (3, .inl v3)]) rfl ?_
              refine zg_iinc dd_61_64 (j := 4) rfl (v := (v3 + (1 : Int32))) (by rw [kI_1]) (Nat.le_of_ble_eq_true rfl) (lv' := [(3, .inl (v3 + (1 : Int32))), (2, .inl v3), (4, .inl (1 : Int32)), (0, .inr (.inr (some 141))), (1, .inl v1)]) rfl ?_
              refine zg_goto (tgt := 4) dd_61_67 (by decide) ?_
              refine zg_sub [3, 4, 1, 0] rfl ?_
              exact ih _ _ _ h
set_option maxRecDepth 20000 in
theorem mt_fc_Ways_nearest_2 {I : zI} {a1 : Int32} {res : Int32} (h : fc_Ways_nearest_2 I a1 = some res) : zM 1 ym_61 [.inr (.inr (some 141)), .inl a1] (zCs, zCr, I) (some (.inl res)) (zCs, zCr, I) 0 0 := by
  refine zM_of (by decide) (Nat.le_of_ble_eq_true rfl) (lv := [(0, .inr (.inr (some 141))), (1, .inl a1)]) rfl ?_
  rw [fc_Ways_nearest_2] at h
  refine zg_iconst dd_61_0 kI_m1 ?_
  refine zg_istore_n dd_61_1 rfl (Nat.le_of_ble_eq_true rfl) (lv' := [(2, .inl (-1 : Int32)), (0, .inr (.inr (some 141))), (1, .inl a1)]) rfl ?_
  refine zg_iconst dd_61_2 kI_0 ?_
  refine zg_istore_n dd_61_3 rfl (Nat.le_of_ble_eq_true rfl) (lv' := [(3, .inl (0 : Int32)), (2, .inl (-1 : Int32)), (0, .inr (.inr (some 141))), (1, .inl a1)]) rfl ?_
  refine zg_sub [2, 3, 1, 0] rfl ?_
  refine lt_fc_Ways_nearest_2_L4  _ _ _ _ h
