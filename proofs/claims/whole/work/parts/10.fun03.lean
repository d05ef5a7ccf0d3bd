/-! TurnedLand$Walks.has[7, None] -/
def fc_Walks_has (I : zI) (a1 : Int32) : Option Int32 :=
  (fc_T_within I a1 (0 : Int32) ((I 7 0) - (1 : Int32))).bind fun r1 =>
  z_guard (zbb r1) <|
  some r1
set_option maxRecDepth 20000 in
theorem mt_fc_Walks_has {I : zI} {a1 : Int32} {res : Int32} (h : fc_Walks_has I a1 = some res) : zM 2 ym_68 [.inr (.inr (some 7)), .inl a1] (zCs, zCr, I) (some (.inl res)) (zCs, zCr, I) 0 0 := by
  refine zM_of (by decide) (Nat.le_of_ble_eq_true rfl) (lv := [(0, .inr (.inr (some 7))), (1, .inl a1)]) rfl ?_
  rw [fc_Walks_has] at h
  refine zg_iload_n dd_68_0 rfl (j := 1) rfl ?_
  refine zg_iconst dd_68_1 kI_0 ?_
  refine zg_aload_n dd_68_2 rfl (j := 0) rfl ?_
  refine zg_getI (x := (I 7 0)) dd_68_3 zl_Walks_9 zCs_7 rfl rfl ?_
  refine zg_iconst dd_68_6 kI_1 ?_
  refine zg_isub dd_68_7 ?_
  obtain ⟨r1, e2, h⟩ := z_bd h
  refine zg_invSN_i (av := [.inl a1, .inl (0 : Int32), .inl ((I 7 0) - (1 : Int32))]) (st := []) (n := 3) dd_68_8 ca_1 (List.mem_of_getElem? (i := 14) rfl) zw_428 (mt_fc_T_within e2) rfl ⟨by decide +kernel, by decide⟩ (Nat.le_of_ble_eq_true rfl) ?_
  obtain ⟨g3, h⟩ := z_gd h
  obtain rfl := Option.some.inj h
  exact zg_zret dd_68_11 rfl (zSt_bb g3).1
/-! TurnedLand$Walker.goes[178, 1, None, None] -/
def fc_Walker_goes_L55 : Nat → Int32 → Int32 → Int32 → Int32 → zI → Option (Int32 × zI)
  | 0, _, _, _, _, _ => none
  | nf + 1, v2, v4, v5, v6, I =>
    if v5 ≤ v6 then
      some ((1 : Int32), I)
    else
      z_guard (zb v2 10) <|
      z_guard (zb v6 8) <|
      (fc_Ground_comesTo I v4 (I (13 + v2.toNatClampNeg) v6.toNatClampNeg)).bind fun r8 =>
      if r8 = (-1 : Int32) then
        some ((0 : Int32), I)
      else
        z_guard (zb ((I 178 1) + (1 : Int32)) 9) <|
        fc_Walker_goes_L55 nf v2 r8 v5 (v6 + (1 : Int32)) (zup (zup I 178 1 ((I 178 1) + (1 : Int32))) 179 ((I 178 1) + (1 : Int32)).toNatClampNeg r8)
def fc_Walker_goes (I : zI) (a2 : Int32) (a3 : Int32) : Option (Int32 × zI) :=
  (fc_Walks_has (zup I 178 1 (0 : Int32)) a2).bind fun r1 =>
  if r1 = 0 then
    some ((0 : Int32), (zup I 178 1 (0 : Int32)))
  else
    z_guard (zb a2 10) <|
    fc_Walker_goes_L55
      100 a2 (((2 : Int32) * (I 9 a2.toNatClampNeg)) + a3) (I 10 a2.toNatClampNeg) (0 : Int32) (zup (zup I 178 1 (0 : Int32)) 179 (0 : Int32).toNatClampNeg (((2 : Int32) * (I 9 a2.toNatClampNeg)) + a3))
set_option maxRecDepth 20000 in
theorem lt_fc_Walker_goes_L55 {res : (Int32 × zI)} : ∀ (nf : Nat) (v2 : Int32) (v4 : Int32) (v5 : Int32) (v6 : Int32) (I : zI), fc_Walker_goes_L55 nf v2 v4 v5 v6 I = some res → zG 4 ym_70 0 0 (some (.inl res.1)) (zCs, zCr, res.2) zCs.length 55 [(0, .inr (.inr (some 178))), (1, .inr (.inr (some 1))), (2, .inl v2), (4, .inl v4), (5, .inl v5), (6, .inl v6)] [] (zCs, zCr, I) 0 0 := by
  intro nf
  induction nf with
  | zero =>
    intro v2 v4 v5 v6 I h
    have h2 : none = some res := h
    cases h2
  | succ nf ih =>
    intro v2 v4 v5 v6 I h
    rw [fc_Walker_goes_L55] at h
    refine zg_iload dd_70_55 (j := 5) rfl ?_
    refine zg_iload dd_70_57 (j := 4) rfl ?_
    refine zg_icmp_ge (tgt := 120) dd_70_59 (by decide) (fun q5 => ?_) (fun q5 => ?_)
    · replace h := z_t h q5
      refine zg_iconst dd_70_120 kI_1 ?_
      obtain rfl := Option.some.inj h
      exact zg_zret dd_70_121 rfl zSt_b1.1
    · replace h := z_f h q5
      refine zg_aload_n dd_70_62 rfl (j := 1) rfl ?_
      refine zg_getR dd_70_63 zl_Walker_37 zCs_1 rfl zCr_1_0 ?_
      refine zg_iload dd_70_66 (j := 3) rfl ?_
      refine zg_aload_n dd_70_68 rfl (j := 1) rfl ?_
      refine zg_getR dd_70_69 zl_Walker_19 zCs_1 rfl zCr_1_1 ?_
      refine zg_getR dd_70_72 zl_Walker_41 zCs_7 rfl zCr_7_5 ?_
      refine zg_iload_n dd_70_75 rfl (j := 2) rfl ?_
      obtain ⟨g6, h⟩ := z_gd h
      refine zg_aald1 dd_70_76 zCs_12 g6 (zrR_C_12 g6) ?_
      refine zg_iload dd_70_77 (j := 5) rfl ?_
      obtain ⟨g7, h⟩ := z_gd h
      refine zg_iald (w := (I (13 + v2.toNatClampNeg) v6.toNatClampNeg)) dd_70_79 (zrS_C_12 g6) g7 rfl ?_
      obtain ⟨r8, e9, h⟩ := z_bd h
      refine zg_invV_i (av := [.inl v4, .inl (I (13 + v2.toNatClampNeg) v6.toNatClampNeg)]) (st := []) (n := 2) dd_70_80 ca_52 zw_724 zw_640 zw_641 zCs_2 zcl_2 rfl (mt_fc_Ground_comesTo e9) rfl ⟨by decide +kernel, by decide⟩ (Nat.le_of_ble_eq_true rfl) ?_
      refine zg_istore dd_70_83 (Nat.le_of_ble_eq_true rfl) (lv' := [(4, .inl r8), (0, .inr (.inr (some 178))), (1, .inr (.inr (some 1))), (2, .inl v2), (5, .inl v5), (6, .inl v6)]) rfl ?_
      refine zg_iload dd_70_85 (j := 0) rfl ?_
      refine zg_iconst dd_70_87 kI_m1 ?_
      refine zg_icmp_ne (tgt := 93) dd_70_88 (by decide) (fun q10 => ?_) (fun q10 => ?_)
      · replace h := z_f h q10
        refine zg_aload_n dd_70_93 rfl (j := 1) rfl ?_
        refine zg_dup dd_70_94 rfl ?_
        refine zg_getI (x := (I 178 1)) dd_70_95 zl_Walker_15 zCs_178 rfl rfl ?_
        refine zg_iconst dd_70_98 kI_1 ?_
        refine zg_iadd dd_70_99 ?_
        refine zg_putI dd_70_100 zp_Walker_15 zCs_178 rfl (zSt_int _) ?_
        refine zg_aload_n dd_70_103 rfl (j := 1) rfl ?_
        refine zg_getR dd_70_104 zl_Walker_9 zCs_178 rfl zCr_178_0 ?_
        refine zg_aload_n dd_70_107 rfl (j := 1) rfl ?_
        refine zg_getI (x := ((I 178 1) + (1 : Int32))) dd_70_108 zl_Walker_15 zCs_178 rfl rfl ?_
        refine zg_iload dd_70_111 (j := 0) rfl ?_
        obtain ⟨g11, h⟩ := z_gd h
        refine zg_iast dd_70_113 zCs_179 g11 ?_
        refine zg_iinc dd_70_114 (j := 5) rfl (v := (v6 + (1 : Int32))) (by rw [kI_1]) (Nat.le_of_ble_eq_true rfl) (lv' := [(6, .inl (v6 + (1 : Int32))), (4, .inl r8), (0, .inr (.inr (some 178))), (1, .inr (.inr (some 1))), (2, .inl v2), (5, .inl v5)]) rfl ?_
        refine zg_goto (tgt := 55) dd_70_117 (by decide) ?_
        refine zg_sub [2, 3, 4, 1, 5, 0] rfl ?_
        exact ih _ _ _ _ _ h
      · replace h := z_t h q10
        refine zg_iconst dd_70_91 kI_0 ?_
        obtain rfl := Option.some.inj h
        exact zg_zret dd_70_92 rfl zSt_b0.1
set_option maxRecDepth 20000 in
theorem mt_fc_Walker_goes {I : zI} {a2 : Int32} {a3 : Int32} {res : (Int32 × zI)} (h : fc_Walker_goes I a2 a3 = some res) : zM 4 ym_70 [.inr (.inr (some 178)), .inr (.inr (some 1)), .inl a2, .inl a3] (zCs, zCr, I) (some (.inl res.1)) (zCs, zCr, res.2) 0 0 := by
  refine zM_of (by decide) (Nat.le_of_ble_eq_true rfl) (lv := [(0, .inr (.inr (some 178))), (1, .inr (.inr (some 1))), (2, .inl a2), (3, .inl a3)]) rfl ?_
  rw [fc_Walker_goes] at h
  refine zg_aload_n dd_70_0 rfl (j := 0) rfl ?_
  refine zg_iconst dd_70_1 kI_0 ?_
  refine zg_putI dd_70_2 zp_Walker_15 zCs_178 rfl (zSt_int _) ?_
  refine zg_aload_n dd_70_5 rfl (j := 1) rfl ?_
  refine zg_getR dd_70_6 zl_Walker_19 zCs_1 rfl zCr_1_1 ?_
  refine zg_iload_n dd_70_9 rfl (j := 2) rfl ?_
  obtain ⟨r1, e2, h⟩ := z_bd h
  refine zg_invV_i (av := [.inl a2]) (st := []) (n := 1) dd_70_10 ca_68 zw_723 zw_712 zw_713 zCs_7 zcl_8 rfl (mt_fc_Walks_has e2) rfl ⟨by decide +kernel, by decide⟩ (Nat.le_of_ble_eq_true rfl) ?_
  refine zg_if_ne (tgt := 18) dd_70_13 (by decide) (fun q3 => ?_) (fun q3 => ?_)
  · replace h := z_f h q3
    refine zg_iconst dd_70_18 kI_2 ?_
    refine zg_aload_n dd_70_19 rfl (j := 1) rfl ?_
    refine zg_getR dd_70_20 zl_Walker_19 zCs_1 rfl zCr_1_1 ?_
    refine zg_getR dd_70_23 zl_Walker_31 zCs_7 rfl zCr_7_2 ?_
    refine zg_iload_n dd_70_26 rfl (j := 2) rfl ?_
    obtain ⟨g4, h⟩ := z_gd h
    refine zg_iald (w := (I 9 a2.toNatClampNeg)) dd_70_27 zCs_9 g4 rfl ?_
    refine zg_imul dd_70_28 ?_
    refine zg_iload_n dd_70_29 rfl (j := 3) rfl ?_
    refine zg_iadd dd_70_30 ?_
    refine zg_istore dd_70_31 (Nat.le_of_ble_eq_true rfl) (lv' := [(4, .inl (((2 : Int32) * (I 9 a2.toNatClampNeg)) + a3)), (0, .inr (.inr (some 178))), (1, .inr (.inr (some 1))), (2, .inl a2), (3, .inl a3)]) rfl ?_
    refine zg_aload_n dd_70_33 rfl (j := 1) rfl ?_
    refine zg_getR dd_70_34 zl_Walker_9 zCs_178 rfl zCr_178_0 ?_
    refine zg_iconst dd_70_37 kI_0 ?_
    refine zg_iload dd_70_38 (j := 0) rfl ?_
    refine zg_iast dd_70_40 zCs_179 (by decide) ?_
    refine zg_aload_n dd_70_41 rfl (j := 2) rfl ?_
    refine zg_getR dd_70_42 zl_Walker_19 zCs_1 rfl zCr_1_1 ?_
    refine zg_getR dd_70_45 zl_Walker_34 zCs_7 rfl zCr_7_3 ?_
    refine zg_iload_n dd_70_48 rfl (j := 3) rfl ?_
    refine zg_iald (w := (I 10 a2.toNatClampNeg)) dd_70_49 zCs_10 g4 rfl ?_
    refine zg_istore dd_70_50 (Nat.le_of_ble_eq_true rfl) (lv' := [(5, .inl (I 10 a2.toNatClampNeg)), (4, .inl (((2 : Int32) * (I 9 a2.toNatClampNeg)) + a3)), (0, .inr (.inr (some 178))), (1, .inr (.inr (some 1))), (2, .inl a2), (3, .inl a3)]) rfl ?_
    refine zg_iconst dd_70_52 kI_0 ?_
    refine zg_istore dd_70_53 (Nat.le_of_ble_eq_true rfl) (lv' := [(6, .inl (0 : Int32)), (5, .inl (I 10 a2.toNatClampNeg)), (4, .inl (((2 : Int32) * (I 9 a2.toNatClampNeg)) + a3)), (0, .inr (.inr (some 178))), (1, .inr (.inr (some 1))), (2, .inl a2), (3, .inl a3)]) rfl ?_
    refine zg_sub [3, 4, 5, 2, 1, 0] rfl ?_
    refine lt_fc_Walker_goes_L55  _ _ _ _ _ _ h
  · replace h := z_t h q3
    refine zg_iconst dd_70_16 kI_0 ?_
    obtain rfl := Option.some.inj h
    exact zg_zret dd_70_17 rfl zSt_b0.1
/-! TurnedLand$Walker.end[178] -/
def fc_Walker_end (I : zI) : Option Int32 :=
  z_guard (zb (I 178 1) 9) <|
  some (I 179 (I 178 1).toNatClampNeg)
set_option maxRecDepth 20000 in
theorem mt_fc_Walker_end {I : zI} {res : Int32} (h : fc_Walker_end I = some res) : zM 1 ym_71 [.inr (.inr (some 178))] (zCs, zCr, I) (some (.inl res)) (zCs, zCr, I) 0 0 := by
  refine zM_of (by decide) (Nat.le_of_ble_eq_true rfl) (lv := [(0, .inr (.inr (some 178)))]) rfl ?_
  rw [fc_Walker_end] at h
  refine zg_aload_n dd_71_0 rfl (j := 0) rfl ?_
  refine zg_getR dd_71_1 zl_Walker_9 zCs_178 rfl zCr_178_0 ?_
  refine zg_aload_n dd_71_4 rfl (j := 0) rfl ?_
  refine zg_getI (x := (I 178 1)) dd_71_5 zl_Walker_15 zCs_178 rfl rfl ?_
  obtain ⟨g1, h⟩ := z_gd h
  refine zg_iald (w := (I 179 (I 178 1).toNatClampNeg)) dd_71_8 zCs_179 g1 rfl ?_
  obtain rfl := Option.some.inj h
  exact zg_iret dd_71_9 rfl
/-! TurnedLand$Walker.hours[178, 1, None] -/
def fc_Walker_hours_L5 : Nat → Int32 → Int32 → Int32 → zI → Option (Int32 × zI)
  | 0, _, _, _, _ => none
  | nf + 1, v2, v3, v4, I =>
    if (I 178 1) ≤ v4 then
      some (v3, I)
    else
      z_guard (zb v4 9) <|
      z_guard (zb v2 10) <|
      z_guard (zb v4 8) <|
      (fc_World_hours I (I 179 v4.toNatClampNeg) (I (13 + v2.toNatClampNeg) v4.toNatClampNeg)).bind fun r5 =>
      fc_Walker_hours_L5 nf v2 (v3 + r5.1) (v4 + (1 : Int32)) r5.2
def fc_Walker_hours (I : zI) (a2 : Int32) : Option (Int32 × zI) :=
  fc_Walker_hours_L5
    100 a2 (0 : Int32) (0 : Int32) I
set_option maxRecDepth 20000 in
theorem lt_fc_Walker_hours_L5 {res : (Int32 × zI)} : ∀ (nf : Nat) (v2 : Int32) (v3 : Int32) (v4 : Int32) (I : zI), fc_Walker_hours_L5 nf v2 v3 v4 I = some res → zG 5 ym_72 0 0 (some (.inl res.1)) (zCs, zCr, res.2) zCs.length 5 [(0, .inr (.inr (some 178))), (1, .inr (.inr (some 1))), (2, .inl v2), (3, .inl v3), (4, .inl v4)] [] (zCs, zCr, I) 0 0 := by
  intro nf
  induction nf with
  | zero =>
    intro v2 v3 v4 I h
    have h2 : none = some res := h
    cases h2
  | succ nf ih =>
    intro v2 v3 v4 I h
    rw [fc_Walker_hours_L5] at h
    refine zg_iload dd_72_5 (j := 4) rfl ?_
    refine zg_aload_n dd_72_7 rfl (j := 0) rfl ?_
    refine zg_getI (x := (I 178 1)) dd_72_8 zl_Walker_15 zCs_178 rfl rfl ?_
    refine zg_icmp_ge (tgt := 46) dd_72_11 (by decide) (fun q1 => ?_) (fun q1 => ?_)
    · replace h := z_t h q1
      refine zg_iload_n dd_72_46 rfl (j := 3) rfl ?_
      obtain rfl := Option.some.inj h
      exact zg_iret dd_72_47 rfl
    · replace h := z_f h q1
      refine zg_iload_n dd_72_14 rfl (j := 3) rfl ?_
      refine zg_aload_n dd_72_15 rfl (j := 1) rfl ?_
      refine zg_aload_n dd_72_16 rfl (j := 0) rfl ?_
      refine zg_getR dd_72_17 zl_Walker_9 zCs_178 rfl zCr_178_0 ?_
      refine zg_iload dd_72_20 (j := 4) rfl ?_
      obtain ⟨g2, h⟩ := z_gd h
      refine zg_iald (w := (I 179 v4.toNatClampNeg)) dd_72_22 zCs_179 g2 rfl ?_
      refine zg_aload_n dd_72_23 rfl (j := 1) rfl ?_
      refine zg_getR dd_72_24 zl_Walker_19 zCs_1 rfl zCr_1_1 ?_
      refine zg_getR dd_72_27 zl_Walker_41 zCs_7 rfl zCr_7_5 ?_
      refine zg_iload_n dd_72_30 rfl (j := 2) rfl ?_
      obtain ⟨g3, h⟩ := z_gd h
      refine zg_aald1 dd_72_31 zCs_12 g3 (zrR_C_12 g3) ?_
      refine zg_iload dd_72_32 (j := 4) rfl ?_
      obtain ⟨g4, h⟩ := z_gd h
      refine zg_iald (w := (I (13 + v2.toNatClampNeg) v4.toNatClampNeg)) dd_72_34 (zrS_C_12 g3) g4 rfl ?_
      obtain ⟨r5, e6, h⟩ := z_bd h
      refine zg_invV_i (av := [.inl (I 179 v4.toNatClampNeg), .inl (I (13 + v2.toNatClampNeg) v4.toNatClampNeg)]) (st := [.inl v3]) (n := 2) dd_72_35 ca_53 zw_733 zw_645 zw_646 zCs_1 zcl_10 rfl (mt_fc_World_hours e6) rfl ⟨by decide +kernel, by decide⟩ (Nat.le_of_ble_eq_true rfl) ?_
      refine zg_iadd dd_72_38 ?_
      refine zg_istore_n dd_72_39 rfl (Nat.le_of_ble_eq_true rfl) (lv' := [(3, .inl (v3 + r5.1)), (0, .inr (.inr (some 178))), (1, .inr (.inr (some 1))), (2, .inl v2), (4, .inl v4)]) rfl ?_
      refine zg_iinc dd_72_40 (j := 4) rfl (v := (v4 + (1 : Int32))) (by rw [kI_1]) (Nat.le_of_ble_eq_true rfl) (lv' := [(4, .inl (v4 + (1 : Int32))), (3, .inl (v3 + r5.1)), (0, .inr (.inr (some 178))), (1, .inr (.inr (some 1))), (2, .inl v2)]) rfl ?_
      refine zg_goto (tgt := 5) dd_72_43 (by decide) ?_
      refine zg_sub [2, 3, 4, 1, 0] rfl ?_
      exact ih _ _ _ _ h
set_option maxRecDepth 20000 in
theorem mt_fc_Walker_hours {I : zI} {a2 : Int32} {res : (Int32 × zI)} (h : fc_Walker_hours I a2 = some res) : zM 5 ym_72 [.inr (.inr (some 178)), .inr (.inr (some 1)), .inl a2] (zCs, zCr, I) (some (.inl res.1)) (zCs, zCr, res.2) 0 0 := by
  refine zM_of (by decide) (Nat.le_of_ble_eq_true rfl) (lv := [(0, .inr (.inr (some 178))), (1, .inr (.inr (some 1))), (2, .inl a2)]) rfl ?_
  rw [fc_Walker_hours] at h
  refine zg_iconst dd_72_0 kI_0 ?_
  refine zg_istore_n dd_72_1 rfl (Nat.le_of_ble_eq_true rfl) (lv' := [(3, .inl (0 : Int32)), (0, .inr (.inr (some 178))), (1, .inr (.inr (some 1))), (2, .inl a2)]) rfl ?_
  refine zg_iconst dd_72_2 kI_0 ?_
  refine zg_istore dd_72_3 (Nat.le_of_ble_eq_true rfl) (lv' := [(4, .inl (0 : Int32)), (3, .inl (0 : Int32)), (0, .inr (.inr (some 178))), (1, .inr (.inr (some 1))), (2, .inl a2)]) rfl ?_
  refine zg_sub [2, 3, 4, 1, 0] rfl ?_
  refine lt_fc_Walker_hours_L5  _ _ _ _ _ h
/-! TurnedLand$Walker.seen[178] -/
def fc_Walker_seen_L4 (I : zI) : Nat → Int32 → Int32 → Option Int32
  | 0, _, _ => none
  | nf + 1, v1, v2 =>
    if (I 178 1) < v2 then
      some v1
    else
      z_guard (zb v2 9) <|
      fc_Walker_seen_L4 I nf (v1 ||| ((1 : Int32) <<< (((I 179 v2.toNatClampNeg) / (2 : Int32)) &&& 31))) (v2 + (1 : Int32))
def fc_Walker_seen (I : zI) : Option Int32 :=
  fc_Walker_seen_L4 I
    100 (0 : Int32) (0 : Int32)
set_option maxRecDepth 20000 in
theorem lt_fc_Walker_seen_L4 {res : Int32} {I : zI} : ∀ (nf : Nat) (v1 : Int32) (v2 : Int32), fc_Walker_seen_L4 I nf v1 v2 = some res → zG 1 ym_73 0 0 (some (.inl res)) (zCs, zCr, I) zCs.length 4 [(0, .inr (.inr (some 178))), (1, .inl v1), (2, .inl v2)] [] (zCs, zCr, I) 0 0 := by
  intro nf
  induction nf with
  | zero =>
    intro v1 v2 h
    have h2 : none = some res := h
    cases h2
  | succ nf ih =>
    intro v1 v2 h
    rw [fc_Walker_seen_L4] at h
    refine zg_iload_n dd_73_4 rfl (j := 2) rfl ?_
    refine zg_aload_n dd_73_5 rfl (j := 0) rfl ?_
    refine zg_getI (x := (I 178 1)) dd_73_6 zl_Walker_15 zCs_178 rfl rfl ?_
    refine zg_icmp_gt (tgt := 31) dd_73_9 (by decide) (fun q1 => ?_) (fun q1 => ?_)
    · replace h := z_t h q1
      refine zg_iload_n dd_73_31 rfl (j := 1) rfl ?_
      obtain rfl := Option.some.inj h
      exact zg_iret dd_73_32 rfl
    · replace h := z_f h q1
      refine zg_iload_n dd_73_12 rfl (j := 1) rfl ?_
      refine zg_iconst dd_73_13 kI_1 ?_
      refine zg_aload_n dd_73_14 rfl (j := 0) rfl ?_
      refine zg_getR dd_73_15 zl_Walker_9 zCs_178 rfl zCr_178_0 ?_
      refine zg_iload_n dd_73_18 rfl (j := 2) rfl ?_
      obtain ⟨g2, h⟩ := z_gd h
      refine zg_iald (w := (I 179 v2.toNatClampNeg)) dd_73_19 zCs_179 g2 rfl ?_
      refine zg_iconst dd_73_20 kI_2 ?_
      refine zg_idiv dd_73_21 (by decide) ?_
      refine zg_ishl dd_73_22 ?_
      refine zg_ior dd_73_23 ?_
      refine zg_istore_n dd_73_24 rfl (Nat.le_of_ble_eq_true rfl) (lv' := [(1, .inl (v1 ||| ((1 : Int32) <<< (((I 179 v2.toNatClampNeg) / (2 : Int32)) &&& 31)))), (0, .inr (.inr (some 178))), (2, .inl v2)]) rfl ?_
      refine zg_iinc dd_73_25 (j := 2) rfl (v := (v2 + (1 : Int32))) (by rw [kI_1]) (Nat.le_of_ble_eq_true rfl) (lv' := [(2, .inl (v2 + (1 : Int32))), (1, .inl (v1 ||| ((1 : Int32) <<< (((I 179 v2.toNatClampNeg) / (2 : Int32)) &&& 31)))), (0, .inr (.inr (some 178)))]) rfl ?_
      refine zg_goto (tgt := 4) dd_73_28 (by decide) ?_
      refine zg_sub [2, 1, 0] rfl ?_
      exact ih _ _ h
set_option maxRecDepth 20000 in
theorem mt_fc_Walker_seen {I : zI} {res : Int32} (h : fc_Walker_seen I = some res) : zM 1 ym_73 [.inr (.inr (some 178))] (zCs, zCr, I) (some (.inl res)) (zCs, zCr, I) 0 0 := by
  refine zM_of (by decide) (Nat.le_of_ble_eq_true rfl) (lv := [(0, .inr (.inr (some 178)))]) rfl ?_
  rw [fc_Walker_seen] at h
  refine zg_iconst dd_73_0 kI_0 ?_
  refine zg_istore_n dd_73_1 rfl (Nat.le_of_ble_eq_true rfl) (lv' := [(1, .inl (0 : Int32)), (0, .inr (.inr (some 178)))]) rfl ?_
  refine zg_iconst dd_73_2 kI_0 ?_
  refine zg_istore_n dd_73_3 rfl (Nat.le_of_ble_eq_true rfl) (lv' := [(2, .inl (0 : Int32)), (1, .inl (0 : Int32)), (0, .inr (.inr (some 178)))]) rfl ?_
  refine zg_sub [2, 1, 0] rfl ?_
  refine lt_fc_Walker_seen_L4  _ _ _ h
/-! TurnedLand$Walker.isSo[178, 1, None] -/
def fc_Walker_isSo (I : zI) (a2 : Int32) : Option (Int32 × zI) :=
  (fc_Walker_goes I a2 (0 : Int32)).bind fun r1 =>
  if r1.1 = 0 then
    some ((0 : Int32), r1.2)
  else
    (fc_Walker_end r1.2).bind fun r4 =>
    z_guard (zb a2 10) <|
    if (r1.2 8 a2.toNatClampNeg) = (1 : Int32) then
      if (r4 / (2 : Int32)) = ((r1.2 179 (0 : Int32).toNatClampNeg) / (2 : Int32)) then
        some ((1 : Int32), r1.2)
      else
        some ((0 : Int32), r1.2)
    else if (r1.2 8 a2.toNatClampNeg) = (2 : Int32) then
      if r4 = (r1.2 179 (0 : Int32).toNatClampNeg) then
        some ((1 : Int32), r1.2)
      else
        some ((0 : Int32), r1.2)
    else if (r1.2 8 a2.toNatClampNeg) = (3 : Int32) then
      if r4 = ((r1.2 179 (0 : Int32).toNatClampNeg) + (1 : Int32)) then
        some ((1 : Int32), r1.2)
      else
        some ((0 : Int32), r1.2)
    else if (r1.2 8 a2.toNatClampNeg) = (4 : Int32) then
      (fc_Walker_goes r1.2 (a2 + (1 : Int32)) (0 : Int32)).bind fun r14 =>
      if r14.1 = 0 then
        some ((0 : Int32), r14.2)
      else
        (fc_Walker_end r14.2).bind fun r17 =>
        if r17 = r4 then
          some ((1 : Int32), r14.2)
        else
          some ((0 : Int32), r14.2)
    else if (r1.2 8 a2.toNatClampNeg) = (5 : Int32) then
      if (r1.2 11 a2.toNatClampNeg) = (-1 : Int32) then
        some ((1 : Int32), r1.2)
      else
        (fc_Walker_hours r1.2 a2).bind fun r22 =>
        if r22.1 = (r1.2 11 a2.toNatClampNeg) then
          some ((1 : Int32), r22.2)
        else
          some ((0 : Int32), r22.2)
    else if (r1.2 8 a2.toNatClampNeg) = (6 : Int32) then
      if r4 = (r1.2 179 (0 : Int32).toNatClampNeg) then
        (fc_Walker_seen r1.2).bind fun r27 =>
        if r27 = (((1 : Int32) <<< ((r1.2 2 0) &&& 31)) - (1 : Int32)) then
          some ((1 : Int32), r1.2)
        else
          some ((0 : Int32), r1.2)
      else
        some ((0 : Int32), r1.2)
    else
      some ((1 : Int32), r1.2)
set_option maxRecDepth 20000 in
theorem mt_fc_Walker_isSo {I : zI} {a2 : Int32} {res : (Int32 × zI)} (h : fc_Walker_isSo I a2 = some res) : zM 6 ym_69 [.inr (.inr (some 178)), .inr (.inr (some 1)), .inl a2] (zCs, zCr, I) (some (.inl res.1)) (zCs, zCr, res.2) 0 0 := by
  refine zM_of (by decide) (Nat.le_of_ble_eq_true rfl) (lv := [(0, .inr (.inr (some 178))), (1, .inr (.inr (some 1))), (2, .inl a2)]) rfl ?_
  rw [fc_Walker_isSo] at h
  refine zg_aload_n dd_69_0 rfl (j := 0) rfl ?_
  refine zg_aload_n dd_69_1 rfl (j := 1) rfl ?_
  refine zg_iload_n dd_69_2 rfl (j := 2) rfl ?_
  refine zg_iconst dd_69_3 kI_0 ?_
  obtain ⟨r1, e2, h⟩ := z_bd h
  refine zg_invV_i (av := [.inr (.inr (some 1)), .inl a2, .inl (0 : Int32)]) (st := []) (n := 3) dd_69_4 ca_70 zw_719 zw_720 zw_721 zCs_178 zcl_7 rfl (mt_fc_Walker_goes e2) rfl ⟨by decide +kernel, by decide⟩ (Nat.le_of_ble_eq_true rfl) ?_
  refine zg_if_ne (tgt := 12) dd_69_7 (by decide) (fun q3 => ?_) (fun q3 => ?_)
  · replace h := z_f h q3
    refine zg_aload_n dd_69_12 rfl (j := 0) rfl ?_
    refine zg_getR dd_69_13 zl_Walker_9 zCs_178 rfl zCr_178_0 ?_
    refine zg_iconst dd_69_16 kI_0 ?_
    refine zg_iald (w := (r1.2 179 (0 : Int32).toNatClampNeg)) dd_69_17 zCs_179 (by decide) rfl ?_
    refine zg_istore_n dd_69_18 rfl (Nat.le_of_ble_eq_true rfl) (lv' := [(3, .inl (r1.2 179 (0 : Int32).toNatClampNeg)), (0, .inr (.inr (some 178))), (1, .inr (.inr (some 1))), (2, .inl a2)]) rfl ?_
    refine zg_aload_n dd_69_19 rfl (j := 1) rfl ?_
    obtain ⟨r4, e5, h⟩ := z_bd h
    refine zg_invV_i (av := []) (st := []) (n := 0) dd_69_20 ca_71 zw_725 zw_726 zw_727 zCs_178 zcl_7 rfl (mt_fc_Walker_end e5) rfl ⟨by decide +kernel, by decide⟩ (Nat.le_of_ble_eq_true rfl) ?_
    refine zg_istore dd_69_23 (Nat.le_of_ble_eq_true rfl) (lv' := [(4, .inl r4), (3, .inl (r1.2 179 (0 : Int32).toNatClampNeg)), (0, .inr (.inr (some 178))), (1, .inr (.inr (some 1))), (2, .inl a2)]) rfl ?_
    refine zg_aload_n dd_69_25 rfl (j := 3) rfl ?_
    refine zg_getR dd_69_26 zl_Walker_19 zCs_1 rfl zCr_1_1 ?_
    refine zg_getR dd_69_29 zl_Walker_65 zCs_7 rfl zCr_7_4 ?_
    refine zg_iload_n dd_69_32 rfl (j := 4) rfl ?_
    obtain ⟨g6, h⟩ := z_gd h
    refine zg_iald (w := (r1.2 11 a2.toNatClampNeg)) dd_69_33 zCs_11 g6 rfl ?_
    refine zg_istore dd_69_34 (Nat.le_of_ble_eq_true rfl) (lv' := [(5, .inl (r1.2 11 a2.toNatClampNeg)), (4, .inl r4), (3, .inl (r1.2 179 (0 : Int32).toNatClampNeg)), (0, .inr (.inr (some 178))), (1, .inr (.inr (some 1))), (2, .inl a2)]) rfl ?_
    refine zg_aload_n dd_69_36 rfl (j := 4) rfl ?_
    refine zg_getR dd_69_37 zl_Walker_19 zCs_1 rfl zCr_1_1 ?_
    refine zg_getR dd_69_40 zl_Walker_68 zCs_7 rfl zCr_7_1 ?_
    refine zg_iload_n dd_69_43 rfl (j := 5) rfl ?_
    refine zg_iald (w := (r1.2 8 a2.toNatClampNeg)) dd_69_44 zCs_8 g6 rfl ?_
    rcases z_if h with ⟨q7, h⟩ | ⟨q7, h⟩
    · refine zg_tabIn (tgt := 84) 39 dd_69_45 q7 (by decide) (by decide) (by decide) ?_
      refine zg_iload dd_69_84 (j := 1) rfl ?_
      refine zg_iconst dd_69_86 kI_2 ?_
      refine zg_idiv dd_69_87 (by decide) ?_
      refine zg_iload_n dd_69_88 rfl (j := 2) rfl ?_
      refine zg_iconst dd_69_89 kI_2 ?_
      refine zg_idiv dd_69_90 (by decide) ?_
      refine zg_icmp_ne (tgt := 98) dd_69_91 (by decide) (fun q8 => ?_) (fun q8 => ?_)
      · replace h := z_f h q8
        refine zg_iconst dd_69_98 kI_0 ?_
        obtain rfl := Option.some.inj h
        exact zg_zret dd_69_99 rfl zSt_b0.1
      · replace h := z_t h q8
        refine zg_iconst dd_69_94 kI_1 ?_
        refine zg_goto (tgt := 99) dd_69_95 (by decide) ?_
        obtain rfl := Option.some.inj h
        exact zg_zret dd_69_99 rfl zSt_b1.1
    rcases z_if h with ⟨q9, h⟩ | ⟨q9, h⟩
    · refine zg_tabIn (tgt := 100) 55 dd_69_45 q9 (by decide) (by decide) (by decide) ?_
      refine zg_iload dd_69_100 (j := 1) rfl ?_
      refine zg_iload_n dd_69_102 rfl (j := 2) rfl ?_
      refine zg_icmp_ne (tgt := 110) dd_69_103 (by decide) (fun q10 => ?_) (fun q10 => ?_)
      · replace h := z_f h q10
        refine zg_iconst dd_69_110 kI_0 ?_
        obtain rfl := Option.some.inj h
        exact zg_zret dd_69_111 rfl zSt_b0.1
      · replace h := z_t h q10
        refine zg_iconst dd_69_106 kI_1 ?_
        refine zg_goto (tgt := 111) dd_69_107 (by decide) ?_
        obtain rfl := Option.some.inj h
        exact zg_zret dd_69_111 rfl zSt_b1.1
    rcases z_if h with ⟨q11, h⟩ | ⟨q11, h⟩
    · refine zg_tabIn (tgt := 112) 67 dd_69_45 q11 (by decide) (by decide) (by decide) ?_
      refine zg_iload dd_69_112 (j := 1) rfl ?_
      refine zg_iload_n dd_69_114 rfl (j := 2) rfl ?_
      refine zg_iconst dd_69_115 kI_1 ?_
      refine zg_iadd dd_69_116 ?_
      refine zg_icmp_ne (tgt := 124) dd_69_117 (by decide) (fun q12 => ?_) (fun q12 => ?_)
      · replace h := z_f h q12
        refine zg_iconst dd_69_124 kI_0 ?_
        obtain rfl := Option.some.inj h
        exact zg_zret dd_69_125 rfl zSt_b0.1
      · replace h := z_t h q12
        refine zg_iconst dd_69_120 kI_1 ?_
        refine zg_goto (tgt := 125) dd_69_121 (by decide) ?_
        obtain rfl := Option.some.inj h
        exact zg_zret dd_69_125 rfl zSt_b1.1
    rcases z_if h with ⟨q13, h⟩ | ⟨q13, h⟩
    · refine zg_tabIn (tgt := 126) 81 dd_69_45 q13 (by decide) (by decide) (by decide) ?_
      refine zg_aload_n dd_69_126 rfl (j := 3) rfl ?_
      refine zg_aload_n dd_69_127 rfl (j := 4) rfl ?_
      refine zg_iload_n dd_69_128 rfl (j := 5) rfl ?_
      refine zg_iconst dd_69_129 kI_1 ?_
      refine zg_iadd dd_69_130 ?_
      refine zg_iconst dd_69_131 kI_0 ?_
      obtain ⟨r14, e15, h⟩ := z_bd h
      refine zg_invV_i (av := [.inr (.inr (some 1)), .inl (a2 + (1 : Int32)), .inl (0 : Int32)]) (st := []) (n := 3) dd_69_132 ca_70 zw_719 zw_720 zw_721 zCs_178 zcl_7 rfl (mt_fc_Walker_goes e15) rfl ⟨by decide +kernel, by decide⟩ (Nat.le_of_ble_eq_true rfl) ?_
      refine zg_if_eq (tgt := 151) dd_69_135 (by decide) (fun q16 => ?_) (fun q16 => ?_)
      · replace h := z_t h q16
        refine zg_iconst dd_69_151 kI_0 ?_
        obtain rfl := Option.some.inj h
        exact zg_zret dd_69_152 rfl zSt_b0.1
      · replace h := z_f h q16
        refine zg_aload_n dd_69_138 rfl (j := 3) rfl ?_
        obtain ⟨r17, e18, h⟩ := z_bd h
        refine zg_invV_i (av := []) (st := []) (n := 0) dd_69_139 ca_71 zw_725 zw_726 zw_727 zCs_178 zcl_7 rfl (mt_fc_Walker_end e18) rfl ⟨by decide +kernel, by decide⟩ (Nat.le_of_ble_eq_true rfl) ?_
        refine zg_iload dd_69_142 (j := 1) rfl ?_
        refine zg_icmp_ne (tgt := 151) dd_69_144 (by decide) (fun q19 => ?_) (fun q19 => ?_)
        · replace h := z_f h q19
          refine zg_iconst dd_69_151 kI_0 ?_
          obtain rfl := Option.some.inj h
          exact zg_zret dd_69_152 rfl zSt_b0.1
        · replace h := z_t h q19
          refine zg_iconst dd_69_147 kI_1 ?_
          refine zg_goto (tgt := 152) dd_69_148 (by decide) ?_
          obtain rfl := Option.some.inj h
          exact zg_zret dd_69_152 rfl zSt_b1.1
    rcases z_if h with ⟨q20, h⟩ | ⟨q20, h⟩
    · refine zg_tabIn (tgt := 153) 108 dd_69_45 q20 (by decide) (by decide) (by decide) ?_
      refine zg_iload dd_69_153 (j := 0) rfl ?_
      refine zg_iconst dd_69_155 kI_m1 ?_
      refine zg_icmp_eq (tgt := 170) dd_69_156 (by decide) (fun q21 => ?_) (fun q21 => ?_)
      · replace h := z_t h q21
        refine zg_iconst dd_69_170 kI_1 ?_
        refine zg_goto (tgt := 175) dd_69_171 (by decide) ?_
        obtain rfl := Option.some.inj h
        exact zg_zret dd_69_175 rfl zSt_b1.1
      · replace h := z_f h q21
        refine zg_aload_n dd_69_159 rfl (j := 3) rfl ?_
        refine zg_aload_n dd_69_160 rfl (j := 4) rfl ?_
        refine zg_iload_n dd_69_161 rfl (j := 5) rfl ?_
        obtain ⟨r22, e23, h⟩ := z_bd h
        refine zg_invV_i (av := [.inr (.inr (some 1)), .inl a2]) (st := []) (n := 2) dd_69_162 ca_72 zw_729 zw_730 zw_731 zCs_178 zcl_7 rfl (mt_fc_Walker_hours e23) rfl ⟨by decide +kernel, by decide⟩ (Nat.le_of_ble_eq_true rfl) ?_
        refine zg_iload dd_69_165 (j := 0) rfl ?_
        refine zg_icmp_ne (tgt := 174) dd_69_167 (by decide) (fun q24 => ?_) (fun q24 => ?_)
        · replace h := z_f h q24
          refine zg_iconst dd_69_174 kI_0 ?_
          obtain rfl := Option.some.inj h
          exact zg_zret dd_69_175 rfl zSt_b0.1
        · replace h := z_t h q24
          refine zg_iconst dd_69_170 kI_1 ?_
          refine zg_goto (tgt := 175) dd_69_171 (by decide) ?_
          obtain rfl := Option.some.inj h
          exact zg_zret dd_69_175 rfl zSt_b1.1
    rcases z_if h with ⟨q25, h⟩ | ⟨q25, h⟩
    · refine zg_tabIn (tgt := 176) 131 dd_69_45 q25 (by decide) (by decide) (by decide) ?_
      refine zg_iload dd_69_176 (j := 1) rfl ?_
      refine zg_iload_n dd_69_178 rfl (j := 2) rfl ?_
      refine zg_icmp_ne (tgt := 204) dd_69_179 (by decide) (fun q26 => ?_) (fun q26 => ?_)
      · replace h := z_f h q26
        refine zg_iconst dd_69_204 kI_0 ?_
        obtain rfl := Option.some.inj h
        exact zg_zret dd_69_205 rfl zSt_b0.1
      · replace h := z_t h q26
        refine zg_aload_n dd_69_182 rfl (j := 3) rfl ?_
        obtain ⟨r27, e28, h⟩ := z_bd h
        refine zg_invV_i (av := []) (st := []) (n := 0) dd_69_183 ca_73 zw_734 zw_736 zv_20 zCs_178 zcl_7 rfl (mt_fc_Walker_seen e28) rfl ⟨by decide +kernel, by decide⟩ (Nat.le_of_ble_eq_true rfl) ?_
        refine zg_iconst dd_69_186 kI_1 ?_
        refine zg_aload_n dd_69_187 rfl (j := 4) rfl ?_
        refine zg_getR dd_69_188 zl_Walker_37 zCs_1 rfl zCr_1_0 ?_
        refine zg_getI (x := (r1.2 2 0)) dd_69_191 zl_Walker_77 zCs_2 rfl rfl ?_
        refine zg_ishl dd_69_194 ?_
        refine zg_iconst dd_69_195 kI_1 ?_
        refine zg_isub dd_69_196 ?_
        refine zg_icmp_ne (tgt := 204) dd_69_197 (by decide) (fun q29 => ?_) (fun q29 => ?_)
        · replace h := z_f h q29
          refine zg_iconst dd_69_204 kI_0 ?_
          obtain rfl := Option.some.inj h
          exact zg_zret dd_69_205 rfl zSt_b0.1
        · replace h := z_t h q29
          refine zg_iconst dd_69_200 kI_1 ?_
          refine zg_goto (tgt := 205) dd_69_201 (by decide) ?_
          obtain rfl := Option.some.inj h
          exact zg_zret dd_69_205 rfl zSt_b1.1
    refine zg_tabOut (tgt := 206) [(1 : Int32), (2 : Int32), (3 : Int32), (4 : Int32), (5 : Int32), (6 : Int32)] dd_69_45 (by decide +kernel) (by simp only [List.mem_cons, List.not_mem_nil, or_false]; rintro _ (rfl | rfl | rfl | rfl | rfl | rfl) <;> assumption) (by decide) ?_
    refine zg_iconst dd_69_206 kI_1 ?_
    obtain rfl := Option.some.inj h
    exact zg_zret dd_69_207 rfl zSt_b1.1
  · replace h := z_t h q3
    refine zg_iconst dd_69_10 kI_0 ?_
    obtain rfl := Option.some.inj h
    exact zg_zret dd_69_11 rfl zSt_b0.1
/-! TurnedLand.walkIs(0, None, None) -/
def fc_T_walkIs (I : zI) (a1 : Int32) (a2 : Int32) : Option (Int32 × zI) :=
  (fc_Walks_has I a1).bind fun r1 =>
  if r1 = 0 then
    (fc_T_refuse I (1 : Int32)).bind fun r18 =>
    some (r18.1, r18.2)
  else
    if a2 = (0 : Int32) then
      z_guard (zb a1 10) <|
      some ((I 8 a1.toNatClampNeg), I)
    else if a2 = (1 : Int32) then
      z_guard (zb a1 10) <|
      some ((I 9 a1.toNatClampNeg), I)
    else if a2 = (2 : Int32) then
      z_guard (zb a1 10) <|
      some ((I 10 a1.toNatClampNeg), I)
    else if a2 = (3 : Int32) then
      z_guard (zb a1 10) <|
      some ((I 11 a1.toNatClampNeg), I)
    else if a2 = (4 : Int32) then
      (fc_Walker_isSo I a1).bind fun r13 =>
      if r13.1 = 0 then
        some ((0 : Int32), r13.2)
      else
        some ((1 : Int32), r13.2)
    else
      (fc_T_refuse I (1 : Int32)).bind fun r16 =>
      some (r16.1, r16.2)
set_option maxRecDepth 20000 in
theorem mt_fc_T_walkIs {I : zI} {a1 : Int32} {a2 : Int32} {res : (Int32 × zI)} (h : fc_T_walkIs I a1 a2 = some res) : zM 7 ym_67 [.inr (.inr (some 0)), .inl a1, .inl a2] (zCs, zCr, I) (some (.inl res.1)) (zCs, zCr, res.2) 0 0 := by
  refine zM_of (by decide) (Nat.le_of_ble_eq_true rfl) (lv := [(0, .inr (.inr (some 0))), (1, .inl a1), (2, .inl a2)]) rfl ?_
  rw [fc_T_walkIs] at h
  refine zg_aload_n dd_67_0 rfl (j := 0) rfl ?_
  refine zg_getR dd_67_1 zl_T_12 zCs_0 rfl zCr_0_0 ?_
  refine zg_getR dd_67_4 zl_T_199 zCs_1 rfl zCr_1_1 ?_
  refine zg_astore_n dd_67_7 rfl (Nat.le_of_ble_eq_true rfl) (lv' := [(3, .inr (.inr (some 7))), (0, .inr (.inr (some 0))), (1, .inl a1), (2, .inl a2)]) rfl ?_
  refine zg_aload_n dd_67_8 rfl (j := 0) rfl ?_
  refine zg_iload_n dd_67_9 rfl (j := 2) rfl ?_
  obtain ⟨r1, e2, h⟩ := z_bd h
  refine zg_invV_i (av := [.inl a1]) (st := []) (n := 1) dd_67_10 ca_68 zw_711 zw_712 zw_713 zCs_7 zcl_8 rfl (mt_fc_Walks_has e2) rfl ⟨by decide +kernel, by decide⟩ (Nat.le_of_ble_eq_true rfl) ?_
  refine zg_if_ne (tgt := 22) dd_67_13 (by decide) (fun q3 => ?_) (fun q3 => ?_)
  · replace h := z_f h q3
    refine zg_iload_n dd_67_22 rfl (j := 3) rfl ?_
    rcases z_if h with ⟨q4, h⟩ | ⟨q4, h⟩
    · refine zg_tabIn (tgt := 56) 33 dd_67_23 q4 (by decide) (by decide) (by decide) ?_
      refine zg_aload_n dd_67_56 rfl (j := 0) rfl ?_
      refine zg_getR dd_67_57 zl_T_217 zCs_7 rfl zCr_7_1 ?_
      refine zg_iload_n dd_67_60 rfl (j := 2) rfl ?_
      obtain ⟨g5, h⟩ := z_gd h
      refine zg_iald (w := (I 8 a1.toNatClampNeg)) dd_67_61 zCs_8 g5 rfl ?_
      obtain rfl := Option.some.inj h
      exact zg_iret dd_67_62 rfl
    rcases z_if h with ⟨q6, h⟩ | ⟨q6, h⟩
    · refine zg_tabIn (tgt := 63) 40 dd_67_23 q6 (by decide) (by decide) (by decide) ?_
      refine zg_aload_n dd_67_63 rfl (j := 0) rfl ?_
      refine zg_getR dd_67_64 zl_T_220 zCs_7 rfl zCr_7_2 ?_
      refine zg_iload_n dd_67_67 rfl (j := 2) rfl ?_
      obtain ⟨g7, h⟩ := z_gd h
      refine zg_iald (w := (I 9 a1.toNatClampNeg)) dd_67_68 zCs_9 g7 rfl ?_
      obtain rfl := Option.some.inj h
      exact zg_iret dd_67_69 rfl
    rcases z_if h with ⟨q8, h⟩ | ⟨q8, h⟩
    · refine zg_tabIn (tgt := 70) 47 dd_67_23 q8 (by decide) (by decide) (by decide) ?_
      refine zg_aload_n dd_67_70 rfl (j := 0) rfl ?_
      refine zg_getR dd_67_71 zl_T_223 zCs_7 rfl zCr_7_3 ?_
      refine zg_iload_n dd_67_74 rfl (j := 2) rfl ?_
      obtain ⟨g9, h⟩ := z_gd h
      refine zg_iald (w := (I 10 a1.toNatClampNeg)) dd_67_75 zCs_10 g9 rfl ?_
      obtain rfl := Option.some.inj h
      exact zg_iret dd_67_76 rfl
    rcases z_if h with ⟨q10, h⟩ | ⟨q10, h⟩
    · refine zg_tabIn (tgt := 77) 54 dd_67_23 q10 (by decide) (by decide) (by decide) ?_
      refine zg_aload_n dd_67_77 rfl (j := 0) rfl ?_
      refine zg_getR dd_67_78 zl_T_226 zCs_7 rfl zCr_7_4 ?_
      refine zg_iload_n dd_67_81 rfl (j := 2) rfl ?_
      obtain ⟨g11, h⟩ := z_gd h
      refine zg_iald (w := (I 11 a1.toNatClampNeg)) dd_67_82 zCs_11 g11 rfl ?_
      obtain rfl := Option.some.inj h
      exact zg_iret dd_67_83 rfl
    rcases z_if h with ⟨q12, h⟩ | ⟨q12, h⟩
    · refine zg_tabIn (tgt := 84) 61 dd_67_23 q12 (by decide) (by decide) (by decide) ?_
      refine zg_aload_n dd_67_84 rfl (j := 1) rfl ?_
      refine zg_getR dd_67_85 zl_T_58 zCs_0 rfl zCr_0_10 ?_
      refine zg_aload_n dd_67_88 rfl (j := 1) rfl ?_
      refine zg_getR dd_67_89 zl_T_12 zCs_0 rfl zCr_0_0 ?_
      refine zg_iload_n dd_67_92 rfl (j := 2) rfl ?_
      obtain ⟨r13, e14, h⟩ := z_bd h
      refine zg_invV_i (av := [.inr (.inr (some 1)), .inl a1]) (st := []) (n := 2) dd_67_93 ca_69 zw_715 zw_716 zw_717 zCs_178 zcl_7 rfl (mt_fc_Walker_isSo e14) rfl ⟨by decide +kernel, by decide⟩ (Nat.le_of_ble_eq_true rfl) ?_
      refine zg_if_eq (tgt := 103) dd_67_96 (by decide) (fun q15 => ?_) (fun q15 => ?_)
      · replace h := z_t h q15
        refine zg_iconst dd_67_103 kI_0 ?_
        obtain rfl := Option.some.inj h
        exact zg_iret dd_67_104 rfl
      · replace h := z_f h q15
        refine zg_iconst dd_67_99 kI_1 ?_
        refine zg_goto (tgt := 104) dd_67_100 (by decide) ?_
        obtain rfl := Option.some.inj h
        exact zg_iret dd_67_104 rfl
    refine zg_tabOut (tgt := 105) [(0 : Int32), (1 : Int32), (2 : Int32), (3 : Int32), (4 : Int32)] dd_67_23 (by decide +kernel) (by simp only [List.mem_cons, List.not_mem_nil, or_false]; rintro _ (rfl | rfl | rfl | rfl | rfl) <;> assumption) (by decide) ?_
    refine zg_aload_n dd_67_105 rfl (j := 1) rfl ?_
    refine zg_iconst dd_67_106 kI_1 ?_
    obtain ⟨r16, e17, h⟩ := z_bd h
    refine zg_invV_i (av := [.inl (1 : Int32)]) (st := []) (n := 1) dd_67_107 ca_2 zw_430 zw_432 zv_0 zCs_0 zcl_11 rfl (mt_fc_T_refuse e17) rfl ⟨by decide +kernel, by decide⟩ (Nat.le_of_ble_eq_true rfl) ?_
    obtain rfl := Option.some.inj h
    exact zg_iret dd_67_110 rfl
  · replace h := z_t h q3
    refine zg_aload_n dd_67_16 rfl (j := 1) rfl ?_
    refine zg_iconst dd_67_17 kI_1 ?_
    obtain ⟨r18, e19, h⟩ := z_bd h
    refine zg_invV_i (av := [.inl (1 : Int32)]) (st := []) (n := 1) dd_67_18 ca_2 zw_430 zw_432 zv_0 zCs_0 zcl_11 rfl (mt_fc_T_refuse e19) rfl ⟨by decide +kernel, by decide⟩ (Nat.le_of_ble_eq_true rfl) ?_
    obtain rfl := Option.some.inj h
    exact zg_iret dd_67_21 rfl
/-! TurnedLand.isUnder[None, None] -/
def fc_T_isUnder_L4 (I : zI) : Nat → Int32 → Int32 → Int32 → Option Int32
  | 0, _, _, _ => none
  | nf + 1, v1, v2, v3 =>
    if (7 : Int32) ≤ v3 then
      some (0 : Int32)
    else
      (fc_T_within I v2 (0 : Int32) (6 : Int32)).bind fun r2 =>
      if r2 = 0 then
        some (0 : Int32)
      else
        if v2 = v1 then
          some (1 : Int32)
        else
          z_guard (zb v2 7) <|
          fc_T_isUnder_L4 I nf v1 (zLst [-1, 0, 1, 1, 0, 0, 2] v2.toNatClampNeg) (v3 + (1 : Int32))
def fc_T_isUnder (I : zI) (a0 : Int32) (a1 : Int32) : Option Int32 :=
  fc_T_isUnder_L4 I
    100 a1 a0 (0 : Int32)
set_option maxRecDepth 20000 in
theorem lt_fc_T_isUnder_L4 {res : Int32} {I : zI} : ∀ (nf : Nat) (v1 : Int32) (v2 : Int32) (v3 : Int32), fc_T_isUnder_L4 I nf v1 v2 v3 = some res → zG 2 ym_75 0 0 (some (.inl res)) (zCs, zCr, I) zCs.length 4 [(1, .inl v1), (2, .inl v2), (3, .inl v3)] [] (zCs, zCr, I) 0 0 := by
  intro nf
  induction nf with
  | zero =>
    intro v1 v2 v3 h
    have h2 : none = some res := h
    cases h2
  | succ nf ih =>
    intro v1 v2 v3 h
    rw [fc_T_isUnder_L4] at h
    refine zg_iload_n dd_75_4 rfl (j := 2) rfl ?_
    refine zg_bipush dd_75_5 kB_7 ?_
    refine zg_icmp_ge (tgt := 39) dd_75_7 (by decide) (fun q1 => ?_) (fun q1 => ?_)
    · replace h := z_t h q1
      refine zg_iconst dd_75_39 kI_0 ?_
      obtain rfl := Option.some.inj h
      exact zg_zret dd_75_40 rfl zSt_b0.1
    · replace h := z_f h q1
      refine zg_iload_n dd_75_10 rfl (j := 1) rfl ?_
      refine zg_iconst dd_75_11 kI_0 ?_
      refine zg_bipush dd_75_12 kB_6 ?_
      obtain ⟨r2, e3, h⟩ := z_bd h
      refine zg_invS_i (av := [.inl v2, .inl (0 : Int32), .inl (6 : Int32)]) (st := []) (n := 3) dd_75_14 ca_1 zw_427 zw_428 (mt_fc_T_within e3) rfl ⟨by decide +kernel, by decide⟩ (Nat.le_of_ble_eq_true rfl) ?_
      refine zg_if_eq (tgt := 39) dd_75_17 (by decide) (fun q4 => ?_) (fun q4 => ?_)
      · replace h := z_t h q4
        refine zg_iconst dd_75_39 kI_0 ?_
        obtain rfl := Option.some.inj h
        exact zg_zret dd_75_40 rfl zSt_b0.1
      · replace h := z_f h q4
        refine zg_iload_n dd_75_20 rfl (j := 1) rfl ?_
        refine zg_iload_n dd_75_21 rfl (j := 0) rfl ?_
        refine zg_icmp_ne (tgt := 27) dd_75_22 (by decide) (fun q5 => ?_) (fun q5 => ?_)
        · replace h := z_f h q5
          refine zg_gst dd_75_27 (List.mem_of_getElem? (i := 2) rfl) zw_745 ?_
          refine zg_iload_n dd_75_30 rfl (j := 1) rfl ?_
          obtain ⟨g6, h⟩ := z_gd h
          refine zg_tiald dd_75_31 (List.mem_of_getElem? (i := 2) rfl) g6 ?_
          refine zg_istore_n dd_75_32 rfl (Nat.le_of_ble_eq_true rfl) (lv' := [(2, .inl (zLst [-1, 0, 1, 1, 0, 0, 2] v2.toNatClampNeg)), (1, .inl v1), (3, .inl v3)]) rfl ?_
          refine zg_iinc dd_75_33 (j := 2) rfl (v := (v3 + (1 : Int32))) (by rw [kI_1]) (Nat.le_of_ble_eq_true rfl) (lv' := [(3, .inl (v3 + (1 : Int32))), (2, .inl (zLst [-1, 0, 1, 1, 0, 0, 2] v2.toNatClampNeg)), (1, .inl v1)]) rfl ?_
          refine zg_goto (tgt := 4) dd_75_36 (by decide) ?_
          refine zg_sub [2, 1, 0] rfl ?_
          exact ih _ _ _ h
        · replace h := z_t h q5
          refine zg_iconst dd_75_25 kI_1 ?_
          obtain rfl := Option.some.inj h
          exact zg_zret dd_75_26 rfl zSt_b1.1
set_option maxRecDepth 20000 in
theorem mt_fc_T_isUnder {I : zI} {a0 : Int32} {a1 : Int32} {res : Int32} (h : fc_T_isUnder I a0 a1 = some res) : zM 2 ym_75 [.inl a0, .inl a1] (zCs, zCr, I) (some (.inl res)) (zCs, zCr, I) 0 0 := by
  refine zM_of (by decide) (Nat.le_of_ble_eq_true rfl) (lv := [(0, .inl a0), (1, .inl a1)]) rfl ?_
  rw [fc_T_isUnder] at h
  refine zg_iload_n dd_75_0 rfl (j := 0) rfl ?_
  refine zg_istore_n dd_75_1 rfl (Nat.le_of_ble_eq_true rfl) (lv' := [(2, .inl a0), (0, .inl a0), (1, .inl a1)]) rfl ?_
  refine zg_iconst dd_75_2 kI_0 ?_
  refine zg_istore_n dd_75_3 rfl (Nat.le_of_ble_eq_true rfl) (lv' := [(3, .inl (0 : Int32)), (2, .inl a0), (0, .inl a0), (1, .inl a1)]) rfl ?_
  refine zg_sub [3, 1, 0] rfl ?_
  refine lt_fc_T_isUnder_L4  _ _ _ _ h
/-! TurnedLand.as(0, None, None) -/
def fc_T_as (I : zI) (a1 : Int32) (a2 : Int32) : Option (Int32 × zI) :=
  (fc_Walks_has I a1).bind fun r1 =>
  if r1 = 0 then
    (fc_T_refuse I (1 : Int32)).bind fun r4 =>
    some (r4.1, r4.2)
  else
    (fc_T_within I a2 (0 : Int32) (6 : Int32)).bind fun r6 =>
    if r6 = 0 then
      (fc_T_refuse I (1 : Int32)).bind fun r15 =>
      some (r15.1, r15.2)
    else
      z_guard (zb a1 10) <|
      (fc_T_isUnder I (I 8 a1.toNatClampNeg) a2).bind fun r10 =>
      if r10 = 0 then
        (fc_T_refuse I (5 : Int32)).bind fun r13 =>
        some (r13.1, r13.2)
      else
        some ((I 10 a1.toNatClampNeg), I)
set_option maxRecDepth 20000 in
theorem mt_fc_T_as {I : zI} {a1 : Int32} {a2 : Int32} {res : (Int32 × zI)} (h : fc_T_as I a1 a2 = some res) : zM 3 ym_74 [.inr (.inr (some 0)), .inl a1, .inl a2] (zCs, zCr, I) (some (.inl res.1)) (zCs, zCr, res.2) 0 0 := by
  refine zM_of (by decide) (Nat.le_of_ble_eq_true rfl) (lv := [(0, .inr (.inr (some 0))), (1, .inl a1), (2, .inl a2)]) rfl ?_
  rw [fc_T_as] at h
  refine zg_aload_n dd_74_0 rfl (j := 0) rfl ?_
  refine zg_getR dd_74_1 zl_T_12 zCs_0 rfl zCr_0_0 ?_
  refine zg_getR dd_74_4 zl_T_199 zCs_1 rfl zCr_1_1 ?_
  refine zg_astore_n dd_74_7 rfl (Nat.le_of_ble_eq_true rfl) (lv' := [(3, .inr (.inr (some 7))), (0, .inr (.inr (some 0))), (1, .inl a1), (2, .inl a2)]) rfl ?_
  refine zg_aload_n dd_74_8 rfl (j := 0) rfl ?_
  refine zg_iload_n dd_74_9 rfl (j := 2) rfl ?_
  obtain ⟨r1, e2, h⟩ := z_bd h
  refine zg_invV_i (av := [.inl a1]) (st := []) (n := 1) dd_74_10 ca_68 zw_711 zw_712 zw_713 zCs_7 zcl_8 rfl (mt_fc_Walks_has e2) rfl ⟨by decide +kernel, by decide⟩ (Nat.le_of_ble_eq_true rfl) ?_
  refine zg_if_eq (tgt := 26) dd_74_13 (by decide) (fun q3 => ?_) (fun q3 => ?_)
  · replace h := z_t h q3
    refine zg_aload_n dd_74_26 rfl (j := 1) rfl ?_
    refine zg_iconst dd_74_27 kI_1 ?_
    obtain ⟨r4, e5, h⟩ := z_bd h
    refine zg_invV_i (av := [.inl (1 : Int32)]) (st := []) (n := 1) dd_74_28 ca_2 zw_430 zw_432 zv_0 zCs_0 zcl_11 rfl (mt_fc_T_refuse e5) rfl ⟨by decide +kernel, by decide⟩ (Nat.le_of_ble_eq_true rfl) ?_
    obtain rfl := Option.some.inj h
    exact zg_iret dd_74_31 rfl
  · replace h := z_f h q3
    refine zg_iload_n dd_74_16 rfl (j := 3) rfl ?_
    refine zg_iconst dd_74_17 kI_0 ?_
    refine zg_bipush dd_74_18 kB_6 ?_
    obtain ⟨r6, e7, h⟩ := z_bd h
    refine zg_invS_i (av := [.inl a2, .inl (0 : Int32), .inl (6 : Int32)]) (st := []) (n := 3) dd_74_20 ca_1 zw_427 zw_428 (mt_fc_T_within e7) rfl ⟨by decide +kernel, by decide⟩ (Nat.le_of_ble_eq_true rfl) ?_
    refine zg_if_ne (tgt := 32) dd_74_23 (by decide) (fun q8 => ?_) (fun q8 => ?_)
    · replace h := z_f h q8
      refine zg_aload_n dd_74_32 rfl (j := 0) rfl ?_
      refine zg_getR dd_74_33 zl_T_217 zCs_7 rfl zCr_7_1 ?_
      refine zg_iload_n dd_74_36 rfl (j := 2) rfl ?_
      obtain ⟨g9, h⟩ := z_gd h
      refine zg_iald (w := (I 8 a1.toNatClampNeg)) dd_74_37 zCs_8 g9 rfl ?_
      refine zg_iload_n dd_74_38 rfl (j := 3) rfl ?_
      obtain ⟨r10, e11, h⟩ := z_bd h
      refine zg_invS_i (av := [.inl (I 8 a1.toNatClampNeg), .inl a2]) (st := []) (n := 2) dd_74_39 ca_75 zw_742 zw_743 (mt_fc_T_isUnder e11) rfl ⟨by decide +kernel, by decide⟩ (Nat.le_of_ble_eq_true rfl) ?_
      refine zg_if_ne (tgt := 51) dd_74_42 (by decide) (fun q12 => ?_) (fun q12 => ?_)
      · replace h := z_f h q12
        refine zg_aload_n dd_74_51 rfl (j := 0) rfl ?_
        refine zg_getR dd_74_52 zl_T_223 zCs_7 rfl zCr_7_3 ?_
        refine zg_iload_n dd_74_55 rfl (j := 2) rfl ?_
        refine zg_iald (w := (I 10 a1.toNatClampNeg)) dd_74_56 zCs_10 g9 rfl ?_
        obtain rfl := Option.some.inj h
        exact zg_iret dd_74_57 rfl
      · replace h := z_t h q12
        refine zg_aload_n dd_74_45 rfl (j := 1) rfl ?_
        refine zg_iconst dd_74_46 kI_5 ?_
        obtain ⟨r13, e14, h⟩ := z_bd h
        refine zg_invV_i (av := [.inl (5 : Int32)]) (st := []) (n := 1) dd_74_47 ca_2 zw_430 zw_432 zv_0 zCs_0 zcl_11 rfl (mt_fc_T_refuse e14) rfl ⟨by decide +kernel, by decide⟩ (Nat.le_of_ble_eq_true rfl) ?_
        obtain rfl := Option.some.inj h
        exact zg_iret dd_74_50 rfl
    · replace h := z_t h q8
      refine zg_aload_n dd_74_26 rfl (j := 1) rfl ?_
      refine zg_iconst dd_74_27 kI_1 ?_
      obtain ⟨r15, e16, h⟩ := z_bd h
      refine zg_invV_i (av := [.inl (1 : Int32)]) (st := []) (n := 1) dd_74_28 ca_2 zw_430 zw_432 zv_0 zCs_0 zcl_11 rfl (mt_fc_T_refuse e16) rfl ⟨by decide +kernel, by decide⟩ (Nat.le_of_ble_eq_true rfl) ?_
      obtain rfl := Option.some.inj h
      exact zg_iret dd_74_31 rfl
/-! TurnedLand.set(0, None, None, None) -/
def fc_T_set (I : zI) (a1 : Int32) (a2 : Int32) (a3 : Int32) : Option (Int32 × zI) :=
  (fc_Walks_has I a1).bind fun r1 =>
  if r1 = 0 then
    (fc_T_refuse I (1 : Int32)).bind fun r27 =>
    some (r27.1, r27.2)
  else
    if a2 = 0 then
      (fc_T_within I a3 (0 : Int32) (6 : Int32)).bind fun r14 =>
      if r14 = 0 then
        if a2 = (3 : Int32) then
          (fc_T_within I a3 (-1 : Int32) (9999 : Int32)).bind fun r20 =>
          if r20 = 0 then
            (fc_T_refuse I (1 : Int32)).bind fun r23 =>
            some (r23.1, r23.2)
          else
            z_guard (zb a1 10) <|
            some ((I 11 a1.toNatClampNeg), (zup I 11 a1.toNatClampNeg a3))
        else
          (fc_T_refuse I (1 : Int32)).bind fun r18 =>
          some (r18.1, r18.2)
      else
        z_guard (zb a1 10) <|
        some ((I 8 a1.toNatClampNeg), (zup I 8 a1.toNatClampNeg a3))
    else
      if a2 = (3 : Int32) then
        (fc_T_within I a3 (-1 : Int32) (9999 : Int32)).bind fun r8 =>
        if r8 = 0 then
          (fc_T_refuse I (1 : Int32)).bind fun r11 =>
          some (r11.1, r11.2)
        else
          z_guard (zb a1 10) <|
          some ((I 11 a1.toNatClampNeg), (zup I 11 a1.toNatClampNeg a3))
      else
        (fc_T_refuse I (1 : Int32)).bind fun r6 =>
        some (r6.1, r6.2)
set_option maxRecDepth 20000 in
theorem mt_fc_T_set {I : zI} {a1 : Int32} {a2 : Int32} {a3 : Int32} {res : (Int32 × zI)} (h : fc_T_set I a1 a2 a3 = some res) : zM 3 ym_76 [.inr (.inr (some 0)), .inl a1, .inl a2, .inl a3] (zCs, zCr, I) (some (.inl res.1)) (zCs, zCr, res.2) 0 0 := by
  refine zM_of (by decide) (Nat.le_of_ble_eq_true rfl) (lv := [(0, .inr (.inr (some 0))), (1, .inl a1), (2, .inl a2), (3, .inl a3)]) rfl ?_
  rw [fc_T_set] at h
  refine zg_aload_n dd_76_0 rfl (j := 0) rfl ?_
  refine zg_getR dd_76_1 zl_T_12 zCs_0 rfl zCr_0_0 ?_
  refine zg_getR dd_76_4 zl_T_199 zCs_1 rfl zCr_1_1 ?_
  refine zg_astore dd_76_7 (Nat.le_of_ble_eq_true rfl) (lv' := [(4, .inr (.inr (some 7))), (0, .inr (.inr (some 0))), (1, .inl a1), (2, .inl a2), (3, .inl a3)]) rfl ?_
  refine zg_aload dd_76_9 (j := 0) rfl ?_
  refine zg_iload_n dd_76_11 rfl (j := 2) rfl ?_
  obtain ⟨r1, e2, h⟩ := z_bd h
  refine zg_invV_i (av := [.inl a1]) (st := []) (n := 1) dd_76_12 ca_68 zw_711 zw_712 zw_713 zCs_7 zcl_8 rfl (mt_fc_Walks_has e2) rfl ⟨by decide +kernel, by decide⟩ (Nat.le_of_ble_eq_true rfl) ?_
  refine zg_if_ne (tgt := 24) dd_76_15 (by decide) (fun q3 => ?_) (fun q3 => ?_)
  · replace h := z_f h q3
    refine zg_iload_n dd_76_24 rfl (j := 3) rfl ?_
    refine zg_if_ne (tgt := 58) dd_76_25 (by decide) (fun q4 => ?_) (fun q4 => ?_)
    · replace h := z_f h q4
      refine zg_iload_n dd_76_58 rfl (j := 3) rfl ?_
      refine zg_iconst dd_76_59 kI_3 ?_
      refine zg_icmp_ne (tgt := 94) dd_76_60 (by decide) (fun q5 => ?_) (fun q5 => ?_)
      · replace h := z_f h q5
        refine zg_aload_n dd_76_94 rfl (j := 1) rfl ?_
        refine zg_iconst dd_76_95 kI_1 ?_
        obtain ⟨r6, e7, h⟩ := z_bd h
        refine zg_invV_i (av := [.inl (1 : Int32)]) (st := []) (n := 1) dd_76_96 ca_2 zw_430 zw_432 zv_0 zCs_0 zcl_11 rfl (mt_fc_T_refuse e7) rfl ⟨by decide +kernel, by decide⟩ (Nat.le_of_ble_eq_true rfl) ?_
        obtain rfl := Option.some.inj h
        exact zg_iret dd_76_99 rfl
      · replace h := z_t h q5
        refine zg_iload_n dd_76_63 rfl (j := 4) rfl ?_
        refine zg_iconst dd_76_64 kI_m1 ?_
        refine zg_sipush dd_76_65 kS_9999 ?_
        obtain ⟨r8, e9, h⟩ := z_bd h
        refine zg_invS_i (av := [.inl a3, .inl (-1 : Int32), .inl (9999 : Int32)]) (st := []) (n := 3) dd_76_68 ca_1 zw_427 zw_428 (mt_fc_T_within e9) rfl ⟨by decide +kernel, by decide⟩ (Nat.le_of_ble_eq_true rfl) ?_
        refine zg_if_eq (tgt := 94) dd_76_71 (by decide) (fun q10 => ?_) (fun q10 => ?_)
        · replace h := z_t h q10
          refine zg_aload_n dd_76_94 rfl (j := 1) rfl ?_
          refine zg_iconst dd_76_95 kI_1 ?_
          obtain ⟨r11, e12, h⟩ := z_bd h
          refine zg_invV_i (av := [.inl (1 : Int32)]) (st := []) (n := 1) dd_76_96 ca_2 zw_430 zw_432 zv_0 zCs_0 zcl_11 rfl (mt_fc_T_refuse e12) rfl ⟨by decide +kernel, by decide⟩ (Nat.le_of_ble_eq_true rfl) ?_
          obtain rfl := Option.some.inj h
          exact zg_iret dd_76_99 rfl
        · replace h := z_f h q10
          refine zg_aload dd_76_74 (j := 0) rfl ?_
          refine zg_getR dd_76_76 zl_T_226 zCs_7 rfl zCr_7_4 ?_
          refine zg_iload_n dd_76_79 rfl (j := 2) rfl ?_
          obtain ⟨g13, h⟩ := z_gd h
          refine zg_iald (w := (I 11 a1.toNatClampNeg)) dd_76_80 zCs_11 g13 rfl ?_
          refine zg_istore dd_76_81 (Nat.le_of_ble_eq_true rfl) (lv' := [(5, .inl (I 11 a1.toNatClampNeg)), (4, .inr (.inr (some 7))), (0, .inr (.inr (some 0))), (1, .inl a1), (2, .inl a2), (3, .inl a3)]) rfl ?_
          refine zg_aload dd_76_83 (j := 1) rfl ?_
          refine zg_getR dd_76_85 zl_T_226 zCs_7 rfl zCr_7_4 ?_
          refine zg_iload_n dd_76_88 rfl (j := 3) rfl ?_
          refine zg_iload_n dd_76_89 rfl (j := 5) rfl ?_
          refine zg_iast dd_76_90 zCs_11 g13 ?_
          refine zg_goto (tgt := 100) dd_76_91 (by decide) ?_
          refine zg_iload dd_76_100 (j := 0) rfl ?_
          obtain rfl := Option.some.inj h
          exact zg_iret dd_76_102 rfl
    · replace h := z_t h q4
      refine zg_iload_n dd_76_28 rfl (j := 4) rfl ?_
      refine zg_iconst dd_76_29 kI_0 ?_
      refine zg_bipush dd_76_30 kB_6 ?_
      obtain ⟨r14, e15, h⟩ := z_bd h
      refine zg_invS_i (av := [.inl a3, .inl (0 : Int32), .inl (6 : Int32)]) (st := []) (n := 3) dd_76_32 ca_1 zw_427 zw_428 (mt_fc_T_within e15) rfl ⟨by decide +kernel, by decide⟩ (Nat.le_of_ble_eq_true rfl) ?_
      refine zg_if_eq (tgt := 58) dd_76_35 (by decide) (fun q16 => ?_) (fun q16 => ?_)
      · replace h := z_t h q16
        refine zg_iload_n dd_76_58 rfl (j := 3) rfl ?_
        refine zg_iconst dd_76_59 kI_3 ?_
        refine zg_icmp_ne (tgt := 94) dd_76_60 (by decide) (fun q17 => ?_) (fun q17 => ?_)
        · replace h := z_f h q17
          refine zg_aload_n dd_76_94 rfl (j := 1) rfl ?_
          refine zg_iconst dd_76_95 kI_1 ?_
          obtain ⟨r18, e19, h⟩ := z_bd h
          refine zg_invV_i (av := [.inl (1 : Int32)]) (st := []) (n := 1) dd_76_96 ca_2 zw_430 zw_432 zv_0 zCs_0 zcl_11 rfl (mt_fc_T_refuse e19) rfl ⟨by decide +kernel, by decide⟩ (Nat.le_of_ble_eq_true rfl) ?_
          obtain rfl := Option.some.inj h
          exact zg_iret dd_76_99 rfl
        · replace h := z_t h q17
          refine zg_iload_n dd_76_63 rfl (j := 4) rfl ?_
          refine zg_iconst dd_76_64 kI_m1 ?_
          refine zg_sipush dd_76_65 kS_9999 ?_
          obtain ⟨r20, e21, h⟩ := z_bd h
          refine zg_invS_i (av := [.inl a3, .inl (-1 : Int32), .inl (9999 : Int32)]) (st := []) (n := 3) dd_76_68 ca_1 zw_427 zw_428 (mt_fc_T_within e21) rfl ⟨by decide +kernel, by decide⟩ (Nat.le_of_ble_eq_true rfl) ?_
          refine zg_if_eq (tgt := 94) dd_76_71 (by decide) (fun q22 => ?_) (fun q22 => ?_)
          · replace h := z_t h q22
            refine zg_aload_n dd_76_94 rfl (j := 1) rfl ?_
            refine zg_iconst dd_76_95 kI_1 ?_
            obtain ⟨r23, e24, h⟩ := z_bd h
            refine zg_invV_i (av := [.inl (1 : Int32)]) (st := []) (n := 1) dd_76_96 ca_2 zw_430 zw_432 zv_0 zCs_0 zcl_11 rfl (mt_fc_T_refuse e24) rfl ⟨by decide +kernel, by decide⟩ (Nat.le_of_ble_eq_true rfl) ?_
            obtain rfl := Option.some.inj h
            exact zg_iret dd_76_99 rfl
          · replace h := z_f h q22
            refine zg_aload dd_76_74 (j := 0) rfl ?_
            refine zg_getR dd_76_76 zl_T_226 zCs_7 rfl zCr_7_4 ?_
            refine zg_iload_n dd_76_79 rfl (j := 2) rfl ?_
            obtain ⟨g25, h⟩ := z_gd h
            refine zg_iald (w := (I 11 a1.toNatClampNeg)) dd_76_80 zCs_11 g25 rfl ?_
            refine zg_istore dd_76_81 (Nat.le_of_ble_eq_true rfl) (lv' := [(5, .inl (I 11 a1.toNatClampNeg)), (4, .inr (.inr (some 7))), (0, .inr (.inr (some 0))), (1, .inl a1), (2, .inl a2), (3, .inl a3)]) rfl ?_
            refine zg_aload dd_76_83 (j := 1) rfl ?_
            refine zg_getR dd_76_85 zl_T_226 zCs_7 rfl zCr_7_4 ?_
            refine zg_iload_n dd_76_88 rfl (j := 3) rfl ?_
            refine zg_iload_n dd_76_89 rfl (j := 5) rfl ?_
            refine zg_iast dd_76_90 zCs_11 g25 ?_
            refine zg_goto (tgt := 100) dd_76_91 (by decide) ?_
            refine zg_iload dd_76_100 (j := 0) rfl ?_
            obtain rfl := Option.some.inj h
            exact zg_iret dd_76_102 rfl
      · replace h := z_f h q16
        refine zg_aload dd_76_38 (j := 0) rfl ?_
        refine zg_getR dd_76_40 zl_T_217 zCs_7 rfl zCr_7_1 ?_
        refine zg_iload_n dd_76_43 rfl (j := 2) rfl ?_
        obtain ⟨g26, h⟩ := z_gd h
        refine zg_iald (w := (I 8 a1.toNatClampNeg)) dd_76_44 zCs_8 g26 rfl ?_
        refine zg_istore dd_76_45 (Nat.le_of_ble_eq_true rfl) (lv' := [(5, .inl (I 8 a1.toNatClampNeg)), (4, .inr (.inr (some 7))), (0, .inr (.inr (some 0))), (1, .inl a1), (2, .inl a2), (3, .inl a3)]) rfl ?_
        refine zg_aload dd_76_47 (j := 1) rfl ?_
        refine zg_getR dd_76_49 zl_T_217 zCs_7 rfl zCr_7_1 ?_
        refine zg_iload_n dd_76_52 rfl (j := 3) rfl ?_
        refine zg_iload_n dd_76_53 rfl (j := 5) rfl ?_
        refine zg_iast dd_76_54 zCs_8 g26 ?_
        refine zg_goto (tgt := 100) dd_76_55 (by decide) ?_
        refine zg_iload dd_76_100 (j := 0) rfl ?_
        obtain rfl := Option.some.inj h
        exact zg_iret dd_76_102 rfl
  · replace h := z_t h q3
    refine zg_aload_n dd_76_18 rfl (j := 1) rfl ?_
    refine zg_iconst dd_76_19 kI_1 ?_
    obtain ⟨r27, e28, h⟩ := z_bd h
    refine zg_invV_i (av := [.inl (1 : Int32)]) (st := []) (n := 1) dd_76_20 ca_2 zw_430 zw_432 zv_0 zCs_0 zcl_11 rfl (mt_fc_T_refuse e28) rfl ⟨by decide +kernel, by decide⟩ (Nat.le_of_ble_eq_true rfl) ?_
    obtain rfl := Option.some.inj h
    exact zg_iret dd_76_23 rfl
/-! TurnedLand$Walker.turns[178] -/
def fc_Walker_turns_L4 (I : zI) : Nat → Int32 → Int32 → Option Int32
  | 0, _, _ => none
  | nf + 1, v1, v2 =>
    if (I 178 1) ≤ v2 then
      some v1
    else
      z_guard (zb v2 9) <|
      z_guard (zb (v2 + (1 : Int32)) 9) <|
      fc_Walker_turns_L4 I nf (v1 + (((I 179 v2.toNatClampNeg) ^^^ (I 179 (v2 + (1 : Int32)).toNatClampNeg)) &&& (1 : Int32))) (v2 + (1 : Int32))
def fc_Walker_turns (I : zI) : Option Int32 :=
  fc_Walker_turns_L4 I
    100 (0 : Int32) (0 : Int32)
set_option maxRecDepth 20000 in
theorem lt_fc_Walker_turns_L4 {res : Int32} {I : zI} : ∀ (nf : Nat) (v1 : Int32) (v2 : Int32), fc_Walker_turns_L4 I nf v1 v2 = some res → zG 1 ym_78 0 0 (some (.inl res)) (zCs, zCr, I) zCs.length 4 [(0, .inr (.inr (some 178))), (1, .inl v1), (2, .inl v2)] [] (zCs, zCr, I) 0 0 := by
  intro nf
  induction nf with
  | zero =>
    intro v1 v2 h
    have h2 : none = some res := h
    cases h2
  | succ nf ih =>
    intro v1 v2 h
    rw [fc_Walker_turns_L4] at h
    refine zg_iload_n dd_78_4 rfl (j := 2) rfl ?_
    refine zg_aload_n dd_78_5 rfl (j := 0) rfl ?_
    refine zg_getI (x := (I 178 1)) dd_78_6 zl_Walker_15 zCs_178 rfl rfl ?_
    refine zg_icmp_ge (tgt := 38) dd_78_9 (by decide) (fun q1 => ?_) (fun q1 => ?_)
    · replace h := z_t h q1
      refine zg_iload_n dd_78_38 rfl (j := 1) rfl ?_
      obtain rfl := Option.some.inj h
      exact zg_iret dd_78_39 rfl
    · replace h := z_f h q1
      refine zg_iload_n dd_78_12 rfl (j := 1) rfl ?_
      refine zg_aload_n dd_78_13 rfl (j := 0) rfl ?_
      refine zg_getR dd_78_14 zl_Walker_9 zCs_178 rfl zCr_178_0 ?_
      refine zg_iload_n dd_78_17 rfl (j := 2) rfl ?_
      obtain ⟨g2, h⟩ := z_gd h
      refine zg_iald (w := (I 179 v2.toNatClampNeg)) dd_78_18 zCs_179 g2 rfl ?_
      refine zg_aload_n dd_78_19 rfl (j := 0) rfl ?_
      refine zg_getR dd_78_20 zl_Walker_9 zCs_178 rfl zCr_178_0 ?_
      refine zg_iload_n dd_78_23 rfl (j := 2) rfl ?_
      refine zg_iconst dd_78_24 kI_1 ?_
      refine zg_iadd dd_78_25 ?_
      obtain ⟨g3, h⟩ := z_gd h
      refine zg_iald (w := (I 179 (v2 + (1 : Int32)).toNatClampNeg)) dd_78_26 zCs_179 g3 rfl ?_
      refine zg_ixor dd_78_27 ?_
      refine zg_iconst dd_78_28 kI_1 ?_
      refine zg_iand dd_78_29 ?_
      refine zg_iadd dd_78_30 ?_
      refine zg_istore_n dd_78_31 rfl (Nat.le_of_ble_eq_true rfl) (lv' := [(1, .inl (v1 + (((I 179 v2.toNatClampNeg) ^^^ (I 179 (v2 + (1 : Int32)).toNatClampNeg)) &&& (1 : Int32)))), (0, .inr (.inr (some 178))), (2, .inl v2)]) rfl ?_
      refine zg_iinc dd_78_32 (j := 2) rfl (v := (v2 + (1 : Int32))) (by rw [kI_1]) (Nat.le_of_ble_eq_true rfl) (lv' := [(2, .inl (v2 + (1 : Int32))), (1, .inl (v1 + (((I 179 v2.toNatClampNeg) ^^^ (I 179 (v2 + (1 : Int32)).toNatClampNeg)) &&& (1 : Int32)))), (0, .inr (.inr (some 178)))]) rfl ?_
      refine zg_goto (tgt := 4) dd_78_35 (by decide) ?_
      refine zg_sub [2, 1, 0] rfl ?_
      exact ih _ _ h
set_option maxRecDepth 20000 in
theorem mt_fc_Walker_turns {I : zI} {res : Int32} (h : fc_Walker_turns I = some res) : zM 1 ym_78 [.inr (.inr (some 178))] (zCs, zCr, I) (some (.inl res)) (zCs, zCr, I) 0 0 := by
  refine zM_of (by decide) (Nat.le_of_ble_eq_true rfl) (lv := [(0, .inr (.inr (some 178)))]) rfl ?_
  rw [fc_Walker_turns] at h
  refine zg_iconst dd_78_0 kI_0 ?_
  refine zg_istore_n dd_78_1 rfl (Nat.le_of_ble_eq_true rfl) (lv' := [(1, .inl (0 : Int32)), (0, .inr (.inr (some 178)))]) rfl ?_
  refine zg_iconst dd_78_2 kI_0 ?_
  refine zg_istore_n dd_78_3 rfl (Nat.le_of_ble_eq_true rfl) (lv' := [(2, .inl (0 : Int32)), (1, .inl (0 : Int32)), (0, .inr (.inr (some 178)))]) rfl ?_
  refine zg_sub [2, 1, 0] rfl ?_
  refine lt_fc_Walker_turns_L4  _ _ _ h
/-! TurnedLand.gone(0, None, None, None) -/
def fc_T_gone (I : zI) (a1 : Int32) (a2 : Int32) (a3 : Int32) : Option (Int32 × zI) :=
  (fc_Walks_has I a1).bind fun r1 =>
  if r1 = 0 then
    (fc_T_refuse I (1 : Int32)).bind fun r4 =>
    some (r4.1, r4.2)
  else
    (fc_T_within I a2 (0 : Int32) (1 : Int32)).bind fun r6 =>
    if r6 = 0 then
      (fc_T_refuse I (1 : Int32)).bind fun r9 =>
      some (r9.1, r9.2)
    else
      (fc_T_within I a3 (0 : Int32) (2 : Int32)).bind fun r11 =>
      if r11 = 0 then
        (fc_T_refuse I (1 : Int32)).bind fun r27 =>
        some (r27.1, r27.2)
      else
        (fc_Walker_goes I a1 a2).bind fun r14 =>
        if r14.1 = 0 then
          (fc_T_refuse r14.2 (3 : Int32)).bind fun r25 =>
          some (r25.1, r25.2)
        else
          if a3 = 0 then
            (fc_Walker_end r14.2).bind fun r23 =>
            some (r23, r14.2)
          else
            if a3 = (1 : Int32) then
              (fc_Walker_hours r14.2 a1).bind fun r21 =>
              some (r21.1, r21.2)
            else
              (fc_Walker_turns r14.2).bind fun r19 =>
              some (r19, r14.2)
set_option maxRecDepth 20000 in
theorem mt_fc_T_gone {I : zI} {a1 : Int32} {a2 : Int32} {a3 : Int32} {res : (Int32 × zI)} (h : fc_T_gone I a1 a2 a3 = some res) : zM 6 ym_77 [.inr (.inr (some 0)), .inl a1, .inl a2, .inl a3] (zCs, zCr, I) (some (.inl res.1)) (zCs, zCr, res.2) 0 0 := by
  refine zM_of (by decide) (Nat.le_of_ble_eq_true rfl) (lv := [(0, .inr (.inr (some 0))), (1, .inl a1), (2, .inl a2), (3, .inl a3)]) rfl ?_
  rw [fc_T_gone] at h
  refine zg_aload_n dd_77_0 rfl (j := 0) rfl ?_
  refine zg_getR dd_77_1 zl_T_12 zCs_0 rfl zCr_0_0 ?_
  refine zg_getR dd_77_4 zl_T_199 zCs_1 rfl zCr_1_1 ?_
  refine zg_iload_n dd_77_7 rfl (j := 1) rfl ?_
  obtain ⟨r1, e2, h⟩ := z_bd h
  refine zg_invV_i (av := [.inl a1]) (st := []) (n := 1) dd_77_8 ca_68 zw_711 zw_712 zw_713 zCs_7 zcl_8 rfl (mt_fc_Walks_has e2) rfl ⟨by decide +kernel, by decide⟩ (Nat.le_of_ble_eq_true rfl) ?_
  refine zg_if_eq (tgt := 32) dd_77_11 (by decide) (fun q3 => ?_) (fun q3 => ?_)
  · replace h := z_t h q3
    refine zg_aload_n dd_77_32 rfl (j := 0) rfl ?_
    refine zg_iconst dd_77_33 kI_1 ?_
    obtain ⟨r4, e5, h⟩ := z_bd h
    refine zg_invV_i (av := [.inl (1 : Int32)]) (st := []) (n := 1) dd_77_34 ca_2 zw_430 zw_432 zv_0 zCs_0 zcl_11 rfl (mt_fc_T_refuse e5) rfl ⟨by decide +kernel, by decide⟩ (Nat.le_of_ble_eq_true rfl) ?_
    obtain rfl := Option.some.inj h
    exact zg_iret dd_77_37 rfl
  · replace h := z_f h q3
    refine zg_iload_n dd_77_14 rfl (j := 2) rfl ?_
    refine zg_iconst dd_77_15 kI_0 ?_
    refine zg_iconst dd_77_16 kI_1 ?_
    obtain ⟨r6, e7, h⟩ := z_bd h
    refine zg_invS_i (av := [.inl a2, .inl (0 : Int32), .inl (1 : Int32)]) (st := []) (n := 3) dd_77_17 ca_1 zw_427 zw_428 (mt_fc_T_within e7) rfl ⟨by decide +kernel, by decide⟩ (Nat.le_of_ble_eq_true rfl) ?_
    refine zg_if_eq (tgt := 32) dd_77_20 (by decide) (fun q8 => ?_) (fun q8 => ?_)
    · replace h := z_t h q8
      refine zg_aload_n dd_77_32 rfl (j := 0) rfl ?_
      refine zg_iconst dd_77_33 kI_1 ?_
      obtain ⟨r9, e10, h⟩ := z_bd h
      refine zg_invV_i (av := [.inl (1 : Int32)]) (st := []) (n := 1) dd_77_34 ca_2 zw_430 zw_432 zv_0 zCs_0 zcl_11 rfl (mt_fc_T_refuse e10) rfl ⟨by decide +kernel, by decide⟩ (Nat.le_of_ble_eq_true rfl) ?_
      obtain rfl := Option.some.inj h
      exact zg_iret dd_77_37 rfl
    · replace h := z_f h q8
      refine zg_iload_n dd_77_23 rfl (j := 3) rfl ?_
      refine zg_iconst dd_77_24 kI_0 ?_
      refine zg_iconst dd_77_25 kI_2 ?_
      obtain ⟨r11, e12, h⟩ := z_bd h
      refine zg_invS_i (av := [.inl a3, .inl (0 : Int32), .inl (2 : Int32)]) (st := []) (n := 3) dd_77_26 ca_1 zw_427 zw_428 (mt_fc_T_within e12) rfl ⟨by decide +kernel, by decide⟩ (Nat.le_of_ble_eq_true rfl) ?_
      refine zg_if_ne (tgt := 38) dd_77_29 (by decide) (fun q13 => ?_) (fun q13 => ?_)
      · replace h := z_f h q13
        refine zg_aload_n dd_77_38 rfl (j := 0) rfl ?_
        refine zg_getR dd_77_39 zl_T_58 zCs_0 rfl zCr_0_10 ?_
        refine zg_aload_n dd_77_42 rfl (j := 0) rfl ?_
        refine zg_getR dd_77_43 zl_T_12 zCs_0 rfl zCr_0_0 ?_
        refine zg_iload_n dd_77_46 rfl (j := 1) rfl ?_
        refine zg_iload_n dd_77_47 rfl (j := 2) rfl ?_
        obtain ⟨r14, e15, h⟩ := z_bd h
        refine zg_invV_i (av := [.inr (.inr (some 1)), .inl a1, .inl a2]) (st := []) (n := 3) dd_77_48 ca_70 zw_755 zw_720 zw_721 zCs_178 zcl_7 rfl (mt_fc_Walker_goes e15) rfl ⟨by decide +kernel, by decide⟩ (Nat.le_of_ble_eq_true rfl) ?_
        refine zg_if_ne (tgt := 60) dd_77_51 (by decide) (fun q16 => ?_) (fun q16 => ?_)
        · replace h := z_f h q16
          refine zg_iload_n dd_77_60 rfl (j := 3) rfl ?_
          refine zg_if_ne (tgt := 72) dd_77_61 (by decide) (fun q17 => ?_) (fun q17 => ?_)
          · replace h := z_f h q17
            refine zg_iload_n dd_77_72 rfl (j := 3) rfl ?_
            refine zg_iconst dd_77_73 kI_1 ?_
            refine zg_icmp_ne (tgt := 92) dd_77_74 (by decide) (fun q18 => ?_) (fun q18 => ?_)
            · replace h := z_f h q18
              refine zg_aload_n dd_77_92 rfl (j := 0) rfl ?_
              refine zg_getR dd_77_93 zl_T_58 zCs_0 rfl zCr_0_10 ?_
              obtain ⟨r19, e20, h⟩ := z_bd h
              refine zg_invV_i (av := []) (st := []) (n := 0) dd_77_96 ca_78 zw_758 zw_759 zw_760 zCs_178 zcl_7 rfl (mt_fc_Walker_turns e20) rfl ⟨by decide +kernel, by decide⟩ (Nat.le_of_ble_eq_true rfl) ?_
              obtain rfl := Option.some.inj h
              exact zg_iret dd_77_99 rfl
            · replace h := z_t h q18
              refine zg_aload_n dd_77_77 rfl (j := 0) rfl ?_
              refine zg_getR dd_77_78 zl_T_58 zCs_0 rfl zCr_0_10 ?_
              refine zg_aload_n dd_77_81 rfl (j := 0) rfl ?_
              refine zg_getR dd_77_82 zl_T_12 zCs_0 rfl zCr_0_0 ?_
              refine zg_iload_n dd_77_85 rfl (j := 1) rfl ?_
              obtain ⟨r21, e22, h⟩ := z_bd h
              refine zg_invV_i (av := [.inr (.inr (some 1)), .inl a1]) (st := []) (n := 2) dd_77_86 ca_72 zw_757 zw_730 zw_731 zCs_178 zcl_7 rfl (mt_fc_Walker_hours e22) rfl ⟨by decide +kernel, by decide⟩ (Nat.le_of_ble_eq_true rfl) ?_
              refine zg_goto (tgt := 99) dd_77_89 (by decide) ?_
              obtain rfl := Option.some.inj h
              exact zg_iret dd_77_99 rfl
          · replace h := z_t h q17
            refine zg_aload_n dd_77_64 rfl (j := 0) rfl ?_
            refine zg_getR dd_77_65 zl_T_58 zCs_0 rfl zCr_0_10 ?_
            obtain ⟨r23, e24, h⟩ := z_bd h
            refine zg_invV_i (av := []) (st := []) (n := 0) dd_77_68 ca_71 zw_756 zw_726 zw_727 zCs_178 zcl_7 rfl (mt_fc_Walker_end e24) rfl ⟨by decide +kernel, by decide⟩ (Nat.le_of_ble_eq_true rfl) ?_
            obtain rfl := Option.some.inj h
            exact zg_iret dd_77_71 rfl
        · replace h := z_t h q16
          refine zg_aload_n dd_77_54 rfl (j := 0) rfl ?_
          refine zg_iconst dd_77_55 kI_3 ?_
          obtain ⟨r25, e26, h⟩ := z_bd h
          refine zg_invV_i (av := [.inl (3 : Int32)]) (st := []) (n := 1) dd_77_56 ca_2 zw_430 zw_432 zv_0 zCs_0 zcl_11 rfl (mt_fc_T_refuse e26) rfl ⟨by decide +kernel, by decide⟩ (Nat.le_of_ble_eq_true rfl) ?_
          obtain rfl := Option.some.inj h
          exact zg_iret dd_77_59 rfl
      · replace h := z_t h q13
        refine zg_aload_n dd_77_32 rfl (j := 0) rfl ?_
        refine zg_iconst dd_77_33 kI_1 ?_
        obtain ⟨r27, e28, h⟩ := z_bd h
        refine zg_invV_i (av := [.inl (1 : Int32)]) (st := []) (n := 1) dd_77_34 ca_2 zw_430 zw_432 zv_0 zCs_0 zcl_11 rfl (mt_fc_T_refuse e28) rfl ⟨by decide +kernel, by decide⟩ (Nat.le_of_ble_eq_true rfl) ?_
        obtain rfl := Option.some.inj h
        exact zg_iret dd_77_37 rfl
/-! TurnedLand.stops(0, None) -/
def fc_T_stops (I : zI) (a1 : Int32) : Option (Int32 × zI) :=
  (fc_Walks_has I a1).bind fun r1 =>
  if r1 = 0 then
    (fc_T_refuse I (1 : Int32)).bind fun r9 =>
    some (r9.1, r9.2)
  else
    (fc_Walker_goes I a1 (0 : Int32)).bind fun r4 =>
    if r4.1 = 0 then
      some ((r4.2 178 1), r4.2)
    else
      (fc_T_refuse r4.2 (2 : Int32)).bind fun r7 =>
      some (r7.1, r7.2)
set_option maxRecDepth 20000 in
theorem mt_fc_T_stops {I : zI} {a1 : Int32} {res : (Int32 × zI)} (h : fc_T_stops I a1 = some res) : zM 5 ym_79 [.inr (.inr (some 0)), .inl a1] (zCs, zCr, I) (some (.inl res.1)) (zCs, zCr, res.2) 0 0 := by
  refine zM_of (by decide) (Nat.le_of_ble_eq_true rfl) (lv := [(0, .inr (.inr (some 0))), (1, .inl a1)]) rfl ?_
  rw [fc_T_stops] at h
  refine zg_aload_n dd_79_0 rfl (j := 0) rfl ?_
  refine zg_getR dd_79_1 zl_T_12 zCs_0 rfl zCr_0_0 ?_
  refine zg_getR dd_79_4 zl_T_199 zCs_1 rfl zCr_1_1 ?_
  refine zg_iload_n dd_79_7 rfl (j := 1) rfl ?_
  obtain ⟨r1, e2, h⟩ := z_bd h
  refine zg_invV_i (av := [.inl a1]) (st := []) (n := 1) dd_79_8 ca_68 zw_711 zw_712 zw_713 zCs_7 zcl_8 rfl (mt_fc_Walks_has e2) rfl ⟨by decide +kernel, by decide⟩ (Nat.le_of_ble_eq_true rfl) ?_
  refine zg_if_ne (tgt := 20) dd_79_11 (by decide) (fun q3 => ?_) (fun q3 => ?_)
  · replace h := z_f h q3
    refine zg_aload_n dd_79_20 rfl (j := 0) rfl ?_
    refine zg_getR dd_79_21 zl_T_58 zCs_0 rfl zCr_0_10 ?_
    refine zg_aload_n dd_79_24 rfl (j := 0) rfl ?_
    refine zg_getR dd_79_25 zl_T_12 zCs_0 rfl zCr_0_0 ?_
    refine zg_iload_n dd_79_28 rfl (j := 1) rfl ?_
    refine zg_iconst dd_79_29 kI_0 ?_
    obtain ⟨r4, e5, h⟩ := z_bd h
    refine zg_invV_i (av := [.inr (.inr (some 1)), .inl a1, .inl (0 : Int32)]) (st := []) (n := 3) dd_79_30 ca_70 zw_755 zw_720 zw_721 zCs_178 zcl_7 rfl (mt_fc_Walker_goes e5) rfl ⟨by decide +kernel, by decide⟩ (Nat.le_of_ble_eq_true rfl) ?_
    refine zg_if_eq (tgt := 44) dd_79_33 (by decide) (fun q6 => ?_) (fun q6 => ?_)
    · replace h := z_t h q6
      refine zg_aload_n dd_79_44 rfl (j := 0) rfl ?_
      refine zg_getR dd_79_45 zl_T_58 zCs_0 rfl zCr_0_10 ?_
      refine zg_getI (x := (r4.2 178 1)) dd_79_48 zl_T_252 zCs_178 rfl rfl ?_
      obtain rfl := Option.some.inj h
      exact zg_iret dd_79_51 rfl
    · replace h := z_f h q6
      refine zg_aload_n dd_79_36 rfl (j := 0) rfl ?_
      refine zg_iconst dd_79_37 kI_2 ?_
      obtain ⟨r7, e8, h⟩ := z_bd h
      refine zg_invV_i (av := [.inl (2 : Int32)]) (st := []) (n := 1) dd_79_38 ca_2 zw_430 zw_432 zv_0 zCs_0 zcl_11 rfl (mt_fc_T_refuse e8) rfl ⟨by decide +kernel, by decide⟩ (Nat.le_of_ble_eq_true rfl) ?_
      refine zg_goto (tgt := 51) dd_79_41 (by decide) ?_
      obtain rfl := Option.some.inj h
      exact zg_iret dd_79_51 rfl
  · replace h := z_t h q3
    refine zg_aload_n dd_79_14 rfl (j := 0) rfl ?_
    refine zg_iconst dd_79_15 kI_1 ?_
    obtain ⟨r9, e10, h⟩ := z_bd h
    refine zg_invV_i (av := [.inl (1 : Int32)]) (st := []) (n := 1) dd_79_16 ca_2 zw_430 zw_432 zv_0 zCs_0 zcl_11 rfl (mt_fc_T_refuse e10) rfl ⟨by decide +kernel, by decide⟩ (Nat.le_of_ble_eq_true rfl) ?_
    obtain rfl := Option.some.inj h
    exact zg_iret dd_79_19 rfl
/-! TurnedLand.person(0, None) -/
def fc_T_person (I : zI) (a1 : Int32) : Option (Int32 × zI) :=
  (fc_Ground_hasPlace I a1).bind fun r1 =>
  if r1 = 0 then
    (fc_T_refuse I (1 : Int32)).bind fun r8 =>
    some (r8.1, r8.2)
  else
    if (I 23 0) < (6 : Int32) then
      z_guard (zb (I 23 0) 6) <|
      some ((I 23 0), (zup (zup (zup I 24 (I 23 0).toNatClampNeg a1) 25 (I 23 0).toNatClampNeg (0 : Int32)) 23 0 ((I 23 0) + (1 : Int32))))
    else
      (fc_T_refuse I (4 : Int32)).bind fun r6 =>
      some (r6.1, r6.2)
set_option maxRecDepth 20000 in
theorem mt_fc_T_person {I : zI} {a1 : Int32} {res : (Int32 × zI)} (h : fc_T_person I a1 = some res) : zM 3 ym_80 [.inr (.inr (some 0)), .inl a1] (zCs, zCr, I) (some (.inl res.1)) (zCs, zCr, res.2) 0 0 := by
  refine zM_of (by decide) (Nat.le_of_ble_eq_true rfl) (lv := [(0, .inr (.inr (some 0))), (1, .inl a1)]) rfl ?_
  rw [fc_T_person] at h
  refine zg_aload_n dd_80_0 rfl (j := 0) rfl ?_
  refine zg_getR dd_80_1 zl_T_12 zCs_0 rfl zCr_0_0 ?_
  refine zg_getR dd_80_4 zl_T_255 zCs_1 rfl zCr_1_2 ?_
  refine zg_astore_n dd_80_7 rfl (Nat.le_of_ble_eq_true rfl) (lv' := [(2, .inr (.inr (some 23))), (0, .inr (.inr (some 0))), (1, .inl a1)]) rfl ?_
  refine zg_aload_n dd_80_8 rfl (j := 1) rfl ?_
  refine zg_getR dd_80_9 zl_T_12 zCs_0 rfl zCr_0_0 ?_
  refine zg_getR dd_80_12 zl_T_76 zCs_1 rfl zCr_1_0 ?_
  refine zg_iload_n dd_80_15 rfl (j := 2) rfl ?_
  obtain ⟨r1, e2, h⟩ := z_bd h
  refine zg_invV_i (av := [.inl a1]) (st := []) (n := 1) dd_80_16 ca_50 zw_631 zw_632 zw_633 zCs_2 zcl_2 rfl (mt_fc_Ground_hasPlace e2) rfl ⟨by decide +kernel, by decide⟩ (Nat.le_of_ble_eq_true rfl) ?_
  refine zg_if_ne (tgt := 28) dd_80_19 (by decide) (fun q3 => ?_) (fun q3 => ?_)
  · replace h := z_f h q3
    refine zg_aload_n dd_80_28 rfl (j := 0) rfl ?_
    refine zg_getI (x := (I 23 0)) dd_80_29 zl_T_259 zCs_23 rfl rfl ?_
    refine zg_bipush dd_80_32 kB_6 ?_
    refine zg_icmp_lt (tgt := 43) dd_80_34 (by decide) (fun q4 => ?_) (fun q4 => ?_)
    · replace h := z_t h q4
      refine zg_aload_n dd_80_43 rfl (j := 0) rfl ?_
      refine zg_getR dd_80_44 zl_T_264 zCs_23 rfl zCr_23_1 ?_
      refine zg_aload_n dd_80_47 rfl (j := 0) rfl ?_
      refine zg_getI (x := (I 23 0)) dd_80_48 zl_T_259 zCs_23 rfl rfl ?_
      refine zg_iload_n dd_80_51 rfl (j := 2) rfl ?_
      obtain ⟨g5, h⟩ := z_gd h
      refine zg_iast dd_80_52 zCs_24 g5 ?_
      refine zg_aload_n dd_80_53 rfl (j := 0) rfl ?_
      refine zg_getR dd_80_54 zl_T_267 zCs_23 rfl zCr_23_2 ?_
      refine zg_aload_n dd_80_57 rfl (j := 0) rfl ?_
      refine zg_getI (x := (I 23 0)) dd_80_58 zl_T_259 zCs_23 rfl rfl ?_
      refine zg_iconst dd_80_61 kI_0 ?_
      refine zg_iast dd_80_62 zCs_25 g5 ?_
      refine zg_aload_n dd_80_63 rfl (j := 0) rfl ?_
      refine zg_dup dd_80_64 rfl ?_
      refine zg_getI (x := (I 23 0)) dd_80_65 zl_T_259 zCs_23 rfl rfl ?_
      refine zg_dup_x1 dd_80_68 rfl rfl ?_
      refine zg_iconst dd_80_69 kI_1 ?_
      refine zg_iadd dd_80_70 ?_
      refine zg_putI dd_80_71 zp_T_259 zCs_23 rfl (zSt_int _) ?_
      obtain rfl := Option.some.inj h
      exact zg_iret dd_80_74 rfl
    · replace h := z_f h q4
      refine zg_aload_n dd_80_37 rfl (j := 1) rfl ?_
      refine zg_iconst dd_80_38 kI_4 ?_
      obtain ⟨r6, e7, h⟩ := z_bd h
      refine zg_invV_i (av := [.inl (4 : Int32)]) (st := []) (n := 1) dd_80_39 ca_2 zw_430 zw_432 zv_0 zCs_0 zcl_11 rfl (mt_fc_T_refuse e7) rfl ⟨by decide +kernel, by decide⟩ (Nat.le_of_ble_eq_true rfl) ?_
      obtain rfl := Option.some.inj h
      exact zg_iret dd_80_42 rfl
  · replace h := z_t h q3
    refine zg_aload_n dd_80_22 rfl (j := 1) rfl ?_
    refine zg_iconst dd_80_23 kI_1 ?_
    obtain ⟨r8, e9, h⟩ := z_bd h
    refine zg_invV_i (av := [.inl (1 : Int32)]) (st := []) (n := 1) dd_80_24 ca_2 zw_430 zw_432 zv_0 zCs_0 zcl_11 rfl (mt_fc_T_refuse e9) rfl ⟨by decide +kernel, by decide⟩ (Nat.le_of_ble_eq_true rfl) ?_
    obtain rfl := Option.some.inj h
    exact zg_iret dd_80_27 rfl
/-! TurnedLand$Folk.hasPerson[23, None] -/
def fc_Folk_hasPerson (I : zI) (a1 : Int32) : Option Int32 :=
  (fc_T_within I a1 (0 : Int32) ((I 23 0) - (1 : Int32))).bind fun r1 =>
  z_guard (zbb r1) <|
  some r1
set_option maxRecDepth 20000 in
theorem mt_fc_Folk_hasPerson {I : zI} {a1 : Int32} {res : Int32} (h : fc_Folk_hasPerson I a1 = some res) : zM 2 ym_82 [.inr (.inr (some 23)), .inl a1] (zCs, zCr, I) (some (.inl res)) (zCs, zCr, I) 0 0 := by
  refine zM_of (by decide) (Nat.le_of_ble_eq_true rfl) (lv := [(0, .inr (.inr (some 23))), (1, .inl a1)]) rfl ?_
  rw [fc_Folk_hasPerson] at h
  refine zg_iload_n dd_82_0 rfl (j := 1) rfl ?_
  refine zg_iconst dd_82_1 kI_0 ?_
  refine zg_aload_n dd_82_2 rfl (j := 0) rfl ?_
  refine zg_getI (x := (I 23 0)) dd_82_3 zl_Folk_9 zCs_23 rfl rfl ?_
  refine zg_iconst dd_82_6 kI_1 ?_
  refine zg_isub dd_82_7 ?_
  obtain ⟨r1, e2, h⟩ := z_bd h
  refine zg_invSN_i (av := [.inl a1, .inl (0 : Int32), .inl ((I 23 0) - (1 : Int32))]) (st := []) (n := 3) dd_82_8 ca_1 (List.mem_of_getElem? (i := 15) rfl) zw_428 (mt_fc_T_within e2) rfl ⟨by decide +kernel, by decide⟩ (Nat.le_of_ble_eq_true rfl) ?_
  obtain ⟨g3, h⟩ := z_gd h
  obtain rfl := Option.some.inj h
  exact zg_zret dd_82_11 rfl (zSt_bb g3).1
/-! TurnedLand.personIs(0, None, None) -/
def fc_T_personIs (I : zI) (a1 : Int32) (a2 : Int32) : Option (Int32 × zI) :=
  (fc_Folk_hasPerson I a1).bind fun r1 =>
  if r1 = 0 then
    (fc_T_refuse I (1 : Int32)).bind fun r4 =>
    some (r4.1, r4.2)
  else
    (fc_T_within I a2 (0 : Int32) (1 : Int32)).bind fun r6 =>
    if r6 = 0 then
      (fc_T_refuse I (1 : Int32)).bind fun r12 =>
      some (r12.1, r12.2)
    else
      if a2 = 0 then
        z_guard (zb a1 6) <|
        some ((I 24 a1.toNatClampNeg), I)
      else
        z_guard (zb a1 6) <|
        some ((I 25 a1.toNatClampNeg), I)
set_option maxRecDepth 20000 in
theorem mt_fc_T_personIs {I : zI} {a1 : Int32} {a2 : Int32} {res : (Int32 × zI)} (h : fc_T_personIs I a1 a2 = some res) : zM 3 ym_81 [.inr (.inr (some 0)), .inl a1, .inl a2] (zCs, zCr, I) (some (.inl res.1)) (zCs, zCr, res.2) 0 0 := by
  refine zM_of (by decide) (Nat.le_of_ble_eq_true rfl) (lv := [(0, .inr (.inr (some 0))), (1, .inl a1), (2, .inl a2)]) rfl ?_
  rw [fc_T_personIs] at h
  refine zg_aload_n dd_81_0 rfl (j := 0) rfl ?_
  refine zg_getR dd_81_1 zl_T_12 zCs_0 rfl zCr_0_0 ?_
  refine zg_getR dd_81_4 zl_T_255 zCs_1 rfl zCr_1_2 ?_
  refine zg_astore_n dd_81_7 rfl (Nat.le_of_ble_eq_true rfl) (lv' := [(3, .inr (.inr (some 23))), (0, .inr (.inr (some 0))), (1, .inl a1), (2, .inl a2)]) rfl ?_
  refine zg_aload_n dd_81_8 rfl (j := 0) rfl ?_
  refine zg_iload_n dd_81_9 rfl (j := 2) rfl ?_
  obtain ⟨r1, e2, h⟩ := z_bd h
  refine zg_invV_i (av := [.inl a1]) (st := []) (n := 1) dd_81_10 ca_82 zw_774 zw_775 zw_776 zCs_23 zcl_1 rfl (mt_fc_Folk_hasPerson e2) rfl ⟨by decide +kernel, by decide⟩ (Nat.le_of_ble_eq_true rfl) ?_
  refine zg_if_eq (tgt := 25) dd_81_13 (by decide) (fun q3 => ?_) (fun q3 => ?_)
  · replace h := z_t h q3
    refine zg_aload_n dd_81_25 rfl (j := 1) rfl ?_
    refine zg_iconst dd_81_26 kI_1 ?_
    obtain ⟨r4, e5, h⟩ := z_bd h
    refine zg_invV_i (av := [.inl (1 : Int32)]) (st := []) (n := 1) dd_81_27 ca_2 zw_430 zw_432 zv_0 zCs_0 zcl_11 rfl (mt_fc_T_refuse e5) rfl ⟨by decide +kernel, by decide⟩ (Nat.le_of_ble_eq_true rfl) ?_
    obtain rfl := Option.some.inj h
    exact zg_iret dd_81_30 rfl
  · replace h := z_f h q3
    refine zg_iload_n dd_81_16 rfl (j := 3) rfl ?_
    refine zg_iconst dd_81_17 kI_0 ?_
    refine zg_iconst dd_81_18 kI_1 ?_
    obtain ⟨r6, e7, h⟩ := z_bd h
    refine zg_invS_i (av := [.inl a2, .inl (0 : Int32), .inl (1 : Int32)]) (st := []) (n := 3) dd_81_19 ca_1 zw_427 zw_428 (mt_fc_T_within e7) rfl ⟨by decide +kernel, by decide⟩ (Nat.le_of_ble_eq_true rfl) ?_
    refine zg_if_ne (tgt := 31) dd_81_22 (by decide) (fun q8 => ?_) (fun q8 => ?_)
    · replace h := z_f h q8
      refine zg_iload_n dd_81_31 rfl (j := 3) rfl ?_
      refine zg_if_ne (tgt := 44) dd_81_32 (by decide) (fun q9 => ?_) (fun q9 => ?_)
      · replace h := z_f h q9
        refine zg_aload_n dd_81_44 rfl (j := 0) rfl ?_
        refine zg_getR dd_81_45 zl_T_267 zCs_23 rfl zCr_23_2 ?_
        refine zg_iload_n dd_81_48 rfl (j := 2) rfl ?_
        obtain ⟨g10, h⟩ := z_gd h
        refine zg_iald (w := (I 25 a1.toNatClampNeg)) dd_81_49 zCs_25 g10 rfl ?_
        obtain rfl := Option.some.inj h
        exact zg_iret dd_81_50 rfl
      · replace h := z_t h q9
        refine zg_aload_n dd_81_35 rfl (j := 0) rfl ?_
        refine zg_getR dd_81_36 zl_T_264 zCs_23 rfl zCr_23_1 ?_
        refine zg_iload_n dd_81_39 rfl (j := 2) rfl ?_
        obtain ⟨g11, h⟩ := z_gd h
        refine zg_iald (w := (I 24 a1.toNatClampNeg)) dd_81_40 zCs_24 g11 rfl ?_
        refine zg_goto (tgt := 50) dd_81_41 (by decide) ?_
        obtain rfl := Option.some.inj h
        exact zg_iret dd_81_50 rfl
    · replace h := z_t h q8
      refine zg_aload_n dd_81_25 rfl (j := 1) rfl ?_
      refine zg_iconst dd_81_26 kI_1 ?_
      obtain ⟨r12, e13, h⟩ := z_bd h
      refine zg_invV_i (av := [.inl (1 : Int32)]) (st := []) (n := 1) dd_81_27 ca_2 zw_430 zw_432 zv_0 zCs_0 zcl_11 rfl (mt_fc_T_refuse e13) rfl ⟨by decide +kernel, by decide⟩ (Nat.le_of_ble_eq_true rfl) ?_
      obtain rfl := Option.some.inj h
      exact zg_iret dd_81_30 rfl
/-! TurnedLand$World.crosses[1, None, None] -/
def fc_World_crosses (I : zI) (a1 : Int32) (a2 : Int32) : Option (Int32 × zI) :=
  z_guard (zb a1 6) <|
  (fc_Ground_comesTo I (I 24 a1.toNatClampNeg) a2).bind fun r2 =>
  if r2 = (-1 : Int32) then
    some ((0 : Int32), I)
  else
    (fc_World_hours I (I 24 a1.toNatClampNeg) a2).bind fun r5 =>
    some ((1 : Int32), (zup (zup r5.2 25 a1.toNatClampNeg (zmin (999999 : Int32) ((I 25 a1.toNatClampNeg) + r5.1))) 24 a1.toNatClampNeg r2))
set_option maxRecDepth 20000 in
theorem mt_fc_World_crosses {I : zI} {a1 : Int32} {a2 : Int32} {res : (Int32 × zI)} (h : fc_World_crosses I a1 a2 = some res) : zM 5 ym_84 [.inr (.inr (some 1)), .inl a1, .inl a2] (zCs, zCr, I) (some (.inl res.1)) (zCs, zCr, res.2) 0 0 := by
  refine zM_of (by decide) (Nat.le_of_ble_eq_true rfl) (lv := [(0, .inr (.inr (some 1))), (1, .inl a1), (2, .inl a2)]) rfl ?_
  rw [fc_World_crosses] at h
  refine zg_aload_n dd_84_0 rfl (j := 0) rfl ?_
  refine zg_getR dd_84_1 zl_World_28 zCs_1 rfl zCr_1_2 ?_
  refine zg_getR dd_84_4 zl_World_114 zCs_23 rfl zCr_23_1 ?_
  refine zg_iload_n dd_84_7 rfl (j := 1) rfl ?_
  obtain ⟨g1, h⟩ := z_gd h
  refine zg_iald (w := (I 24 a1.toNatClampNeg)) dd_84_8 zCs_24 g1 rfl ?_
  refine zg_istore_n dd_84_9 rfl (Nat.le_of_ble_eq_true rfl) (lv' := [(3, .inl (I 24 a1.toNatClampNeg)), (0, .inr (.inr (some 1))), (1, .inl a1), (2, .inl a2)]) rfl ?_
  refine zg_aload_n dd_84_10 rfl (j := 1) rfl ?_
  refine zg_getR dd_84_11 zl_World_12 zCs_1 rfl zCr_1_0 ?_
  refine zg_iload_n dd_84_14 rfl (j := 0) rfl ?_
  refine zg_iload_n dd_84_15 rfl (j := 3) rfl ?_
  obtain ⟨r2, e3, h⟩ := z_bd h
  refine zg_invV_i (av := [.inl (I 24 a1.toNatClampNeg), .inl a2]) (st := []) (n := 2) dd_84_16 ca_52 zw_648 zw_640 zw_641 zCs_2 zcl_2 rfl (mt_fc_Ground_comesTo e3) rfl ⟨by decide +kernel, by decide⟩ (Nat.le_of_ble_eq_true rfl) ?_
  refine zg_istore dd_84_19 (Nat.le_of_ble_eq_true rfl) (lv' := [(4, .inl r2), (3, .inl (I 24 a1.toNatClampNeg)), (0, .inr (.inr (some 1))), (1, .inl a1), (2, .inl a2)]) rfl ?_
  refine zg_iload dd_84_21 (j := 0) rfl ?_
  refine zg_iconst dd_84_23 kI_m1 ?_
  refine zg_icmp_ne (tgt := 29) dd_84_24 (by decide) (fun q4 => ?_) (fun q4 => ?_)
  · replace h := z_f h q4
    refine zg_aload_n dd_84_29 rfl (j := 2) rfl ?_
    refine zg_getR dd_84_30 zl_World_28 zCs_1 rfl zCr_1_2 ?_
    refine zg_getR dd_84_33 zl_World_117 zCs_23 rfl zCr_23_2 ?_
    refine zg_iload_n dd_84_36 rfl (j := 3) rfl ?_
    refine zg_ldc dd_84_37 zw_787 ?_
    refine zg_aload_n dd_84_39 rfl (j := 2) rfl ?_
    refine zg_getR dd_84_40 zl_World_28 zCs_1 rfl zCr_1_2 ?_
    refine zg_getR dd_84_43 zl_World_117 zCs_23 rfl zCr_23_2 ?_
    refine zg_iload_n dd_84_46 rfl (j := 3) rfl ?_
    refine zg_iald (w := (I 25 a1.toNatClampNeg)) dd_84_47 zCs_25 g1 rfl ?_
    refine zg_aload_n dd_84_48 rfl (j := 2) rfl ?_
    refine zg_iload_n dd_84_49 rfl (j := 1) rfl ?_
    refine zg_iload_n dd_84_50 rfl (j := 4) rfl ?_
    obtain ⟨r5, e6, h⟩ := z_bd h
    refine zg_invV_i (av := [.inl (I 24 a1.toNatClampNeg), .inl a2]) (st := [.inl (I 25 a1.toNatClampNeg), .inl (999999 : Int32), .inl a1, .inr (.inr (some 25))]) (n := 2) dd_84_51 ca_53 zw_788 zw_645 zw_646 zCs_1 zcl_10 rfl (mt_fc_World_hours e6) rfl ⟨by decide +kernel, by decide⟩ (Nat.le_of_ble_eq_true rfl) ?_
    refine zg_iadd dd_84_54 ?_
    refine zg_zmin (st := [.inl a1, .inr (.inr (some 25))]) dd_84_55 zw_789 zmin_w (Nat.le_of_ble_eq_true rfl) (Nat.le_of_ble_eq_true rfl) ?_
    refine zg_iast dd_84_58 zCs_25 g1 ?_
    refine zg_aload_n dd_84_59 rfl (j := 2) rfl ?_
    refine zg_getR dd_84_60 zl_World_28 zCs_1 rfl zCr_1_2 ?_
    refine zg_getR dd_84_63 zl_World_114 zCs_23 rfl zCr_23_1 ?_
    refine zg_iload_n dd_84_66 rfl (j := 3) rfl ?_
    refine zg_iload dd_84_67 (j := 0) rfl ?_
    refine zg_iast dd_84_69 zCs_24 g1 ?_
    refine zg_iconst dd_84_70 kI_1 ?_
    obtain rfl := Option.some.inj h
    exact zg_zret dd_84_71 rfl zSt_b1.1
  · replace h := z_t h q4
    refine zg_iconst dd_84_27 kI_0 ?_
    obtain rfl := Option.some.inj h
    exact zg_zret dd_84_28 rfl zSt_b0.1
/-! TurnedLand.cross(0, None, None) -/
def fc_T_cross (I : zI) (a1 : Int32) (a2 : Int32) : Option (Int32 × zI) :=
  (fc_Folk_hasPerson I a1).bind fun r1 =>
  if r1 = 0 then
    (fc_T_refuse I (1 : Int32)).bind fun r4 =>
    some (r4.1, r4.2)
  else
    (fc_T_within I a2 (0 : Int32) (3 : Int32)).bind fun r6 =>
    if r6 = 0 then
      (fc_T_refuse I (1 : Int32)).bind fun r15 =>
      some (r15.1, r15.2)
    else
      (fc_World_crosses I a1 a2).bind fun r9 =>
      if r9.1 = 0 then
        (fc_T_refuse r9.2 (3 : Int32)).bind fun r13 =>
        some (r13.1, r13.2)
      else
        z_guard (zb a1 6) <|
        some ((r9.2 24 a1.toNatClampNeg), r9.2)
set_option maxRecDepth 20000 in
theorem mt_fc_T_cross {I : zI} {a1 : Int32} {a2 : Int32} {res : (Int32 × zI)} (h : fc_T_cross I a1 a2 = some res) : zM 6 ym_83 [.inr (.inr (some 0)), .inl a1, .inl a2] (zCs, zCr, I) (some (.inl res.1)) (zCs, zCr, res.2) 0 0 := by
  refine zM_of (by decide) (Nat.le_of_ble_eq_true rfl) (lv := [(0, .inr (.inr (some 0))), (1, .inl a1), (2, .inl a2)]) rfl ?_
  rw [fc_T_cross] at h
  refine zg_aload_n dd_83_0 rfl (j := 0) rfl ?_
  refine zg_getR dd_83_1 zl_T_12 zCs_0 rfl zCr_0_0 ?_
  refine zg_getR dd_83_4 zl_T_255 zCs_1 rfl zCr_1_2 ?_
  refine zg_iload_n dd_83_7 rfl (j := 1) rfl ?_
  obtain ⟨r1, e2, h⟩ := z_bd h
  refine zg_invV_i (av := [.inl a1]) (st := []) (n := 1) dd_83_8 ca_82 zw_774 zw_775 zw_776 zCs_23 zcl_1 rfl (mt_fc_Folk_hasPerson e2) rfl ⟨by decide +kernel, by decide⟩ (Nat.le_of_ble_eq_true rfl) ?_
  refine zg_if_eq (tgt := 23) dd_83_11 (by decide) (fun q3 => ?_) (fun q3 => ?_)
  · replace h := z_t h q3
    refine zg_aload_n dd_83_23 rfl (j := 0) rfl ?_
    refine zg_iconst dd_83_24 kI_1 ?_
    obtain ⟨r4, e5, h⟩ := z_bd h
    refine zg_invV_i (av := [.inl (1 : Int32)]) (st := []) (n := 1) dd_83_25 ca_2 zw_430 zw_432 zv_0 zCs_0 zcl_11 rfl (mt_fc_T_refuse e5) rfl ⟨by decide +kernel, by decide⟩ (Nat.le_of_ble_eq_true rfl) ?_
    obtain rfl := Option.some.inj h
    exact zg_iret dd_83_28 rfl
  · replace h := z_f h q3
    refine zg_iload_n dd_83_14 rfl (j := 2) rfl ?_
    refine zg_iconst dd_83_15 kI_0 ?_
    refine zg_iconst dd_83_16 kI_3 ?_
    obtain ⟨r6, e7, h⟩ := z_bd h
    refine zg_invS_i (av := [.inl a2, .inl (0 : Int32), .inl (3 : Int32)]) (st := []) (n := 3) dd_83_17 ca_1 zw_427 zw_428 (mt_fc_T_within e7) rfl ⟨by decide +kernel, by decide⟩ (Nat.le_of_ble_eq_true rfl) ?_
    refine zg_if_ne (tgt := 29) dd_83_20 (by decide) (fun q8 => ?_) (fun q8 => ?_)
    · replace h := z_f h q8
      refine zg_aload_n dd_83_29 rfl (j := 0) rfl ?_
      refine zg_getR dd_83_30 zl_T_12 zCs_0 rfl zCr_0_0 ?_
      refine zg_iload_n dd_83_33 rfl (j := 1) rfl ?_
      refine zg_iload_n dd_83_34 rfl (j := 2) rfl ?_
      obtain ⟨r9, e10, h⟩ := z_bd h
      refine zg_invV_i (av := [.inl a1, .inl a2]) (st := []) (n := 2) dd_83_35 ca_84 zw_783 zw_784 zw_785 zCs_1 zcl_10 rfl (mt_fc_World_crosses e10) rfl ⟨by decide +kernel, by decide⟩ (Nat.le_of_ble_eq_true rfl) ?_
      refine zg_if_ne (tgt := 47) dd_83_38 (by decide) (fun q11 => ?_) (fun q11 => ?_)
      · replace h := z_f h q11
        refine zg_aload_n dd_83_47 rfl (j := 0) rfl ?_
        refine zg_getR dd_83_48 zl_T_12 zCs_0 rfl zCr_0_0 ?_
        refine zg_getR dd_83_51 zl_T_255 zCs_1 rfl zCr_1_2 ?_
        refine zg_getR dd_83_54 zl_T_264 zCs_23 rfl zCr_23_1 ?_
        refine zg_iload_n dd_83_57 rfl (j := 1) rfl ?_
        obtain ⟨g12, h⟩ := z_gd h
        refine zg_iald (w := (r9.2 24 a1.toNatClampNeg)) dd_83_58 zCs_24 g12 rfl ?_
        obtain rfl := Option.some.inj h
        exact zg_iret dd_83_59 rfl
      · replace h := z_t h q11
        refine zg_aload_n dd_83_41 rfl (j := 0) rfl ?_
        refine zg_iconst dd_83_42 kI_3 ?_
        obtain ⟨r13, e14, h⟩ := z_bd h
        refine zg_invV_i (av := [.inl (3 : Int32)]) (st := []) (n := 1) dd_83_43 ca_2 zw_430 zw_432 zv_0 zCs_0 zcl_11 rfl (mt_fc_T_refuse e14) rfl ⟨by decide +kernel, by decide⟩ (Nat.le_of_ble_eq_true rfl) ?_
        obtain rfl := Option.some.inj h
        exact zg_iret dd_83_46 rfl
    · replace h := z_t h q8
      refine zg_aload_n dd_83_23 rfl (j := 0) rfl ?_
      refine zg_iconst dd_83_24 kI_1 ?_
      obtain ⟨r15, e16, h⟩ := z_bd h
      refine zg_invV_i (av := [.inl (1 : Int32)]) (st := []) (n := 1) dd_83_25 ca_2 zw_430 zw_432 zv_0 zCs_0 zcl_11 rfl (mt_fc_T_refuse e16) rfl ⟨by decide +kernel, by decide⟩ (Nat.le_of_ble_eq_true rfl) ?_
      obtain rfl := Option.some.inj h
      exact zg_iret dd_83_28 rfl
/-! TurnedLand$World.draw[1] -/
def fc_World_draw (I : zI) : Option (Int32 × zI) :=
  some ((zush (((I 1 10) * (1103515245 : Int32)) + (12345 : Int32)) (8 : Int32)), (zup I 1 10 (((I 1 10) * (1103515245 : Int32)) + (12345 : Int32))))
set_option maxRecDepth 20000 in
theorem mt_fc_World_draw {I : zI} {res : (Int32 × zI)} (h : fc_World_draw I = some res) : zM 1 ym_86 [.inr (.inr (some 1))] (zCs, zCr, I) (some (.inl res.1)) (zCs, zCr, res.2) 0 0 := by
  refine zM_of (by decide) (Nat.le_of_ble_eq_true rfl) (lv := [(0, .inr (.inr (some 1)))]) rfl ?_
  rw [fc_World_draw] at h
  refine zg_aload_n dd_86_0 rfl (j := 0) rfl ?_
  refine zg_aload_n dd_86_1 rfl (j := 0) rfl ?_
  refine zg_getI (x := (I 1 10)) dd_86_2 zl_World_63 zCs_1 rfl rfl ?_
  refine zg_ldc dd_86_5 zw_798 ?_
  refine zg_imul dd_86_7 ?_
  refine zg_sipush dd_86_8 kS_12345 ?_
  refine zg_iadd dd_86_11 ?_
  refine zg_putI dd_86_12 zp_World_63 zCs_1 rfl (zSt_int _) ?_
  refine zg_aload_n dd_86_15 rfl (j := 0) rfl ?_
  refine zg_getI (x := (((I 1 10) * (1103515245 : Int32)) + (12345 : Int32))) dd_86_16 zl_World_63 zCs_1 rfl rfl ?_
  refine zg_bipush dd_86_19 kB_8 ?_
  refine zg_iushr dd_86_21 ?_
  obtain rfl := Option.some.inj h
  exact zg_iret dd_86_22 rfl
/-! TurnedLand.stroll(0, None, None) -/
def fc_T_stroll_L32 : Nat → Int32 → Int32 → Int32 → zI → Option (Int32 × zI)
  | 0, _, _, _, _ => none
  | nf + 1, v1, v2, v3, I =>
    if v2 ≤ v3 then
      z_guard (zb v1 6) <|
      some ((I 24 v1.toNatClampNeg), I)
    else
      (fc_World_draw I).bind fun r11 =>
      (fc_World_crosses r11.2 v1 (r11.1 % (4 : Int32))).bind fun r13 =>
      fc_T_stroll_L32 nf v1 v2 (v3 + (1 : Int32)) r13.2
def fc_T_stroll (I : zI) (a1 : Int32) (a2 : Int32) : Option (Int32 × zI) :=
  (fc_Folk_hasPerson I a1).bind fun r1 =>
  if r1 = 0 then
    (fc_T_refuse I (1 : Int32)).bind fun r4 =>
    some (r4.1, r4.2)
  else
    (fc_T_within I a2 (1 : Int32) (60 : Int32)).bind fun r6 =>
    if r6 = 0 then
      (fc_T_refuse I (1 : Int32)).bind fun r15 =>
      some (r15.1, r15.2)
    else
      fc_T_stroll_L32
        100 a1 a2 (0 : Int32) I
set_option maxRecDepth 20000 in
theorem lt_fc_T_stroll_L32 {res : (Int32 × zI)} : ∀ (nf : Nat) (v1 : Int32) (v2 : Int32) (v3 : Int32) (I : zI), fc_T_stroll_L32 nf v1 v2 v3 I = some res → zG 6 ym_85 0 0 (some (.inl res.1)) (zCs, zCr, res.2) zCs.length 32 [(0, .inr (.inr (some 0))), (1, .inl v1), (2, .inl v2), (3, .inl v3)] [] (zCs, zCr, I) 0 0 := by
  intro nf
  induction nf with
  | zero =>
    intro v1 v2 v3 I h
    have h2 : none = some res := h
    cases h2
  | succ nf ih =>
    intro v1 v2 v3 I h
    rw [fc_T_stroll_L32] at h
    refine zg_iload_n dd_85_32 rfl (j := 3) rfl ?_
    refine zg_iload_n dd_85_33 rfl (j := 2) rfl ?_
    refine zg_icmp_ge (tgt := 61) dd_85_34 (by decide) (fun q9 => ?_) (fun q9 => ?_)
    · replace h := z_t h q9
      refine zg_aload_n dd_85_61 rfl (j := 0) rfl ?_
      refine zg_getR dd_85_62 zl_T_12 zCs_0 rfl zCr_0_0 ?_
      refine zg_getR dd_85_65 zl_T_255 zCs_1 rfl zCr_1_2 ?_
      refine zg_getR dd_85_68 zl_T_264 zCs_23 rfl zCr_23_1 ?_
      refine zg_iload_n dd_85_71 rfl (j := 1) rfl ?_
      obtain ⟨g10, h⟩ := z_gd h
      refine zg_iald (w := (I 24 v1.toNatClampNeg)) dd_85_72 zCs_24 g10 rfl ?_
      obtain rfl := Option.some.inj h
      exact zg_iret dd_85_73 rfl
    · replace h := z_f h q9
      refine zg_aload_n dd_85_37 rfl (j := 0) rfl ?_
      refine zg_getR dd_85_38 zl_T_12 zCs_0 rfl zCr_0_0 ?_
      refine zg_iload_n dd_85_41 rfl (j := 1) rfl ?_
      refine zg_aload_n dd_85_42 rfl (j := 0) rfl ?_
      refine zg_getR dd_85_43 zl_T_12 zCs_0 rfl zCr_0_0 ?_
      obtain ⟨r11, e12, h⟩ := z_bd h
      refine zg_invV_i (av := []) (st := [.inl v1, .inr (.inr (some 1))]) (n := 0) dd_85_46 ca_86 zw_794 zw_795 zw_796 zCs_1 zcl_10 rfl (mt_fc_World_draw e12) rfl ⟨by decide +kernel, by decide⟩ (Nat.le_of_ble_eq_true rfl) ?_
      refine zg_iconst dd_85_49 kI_4 ?_
      refine zg_irem dd_85_50 (by decide) ?_
      obtain ⟨r13, e14, h⟩ := z_bd h
      refine zg_invV_i (av := [.inl v1, .inl (r11.1 % (4 : Int32))]) (st := []) (n := 2) dd_85_51 ca_84 zw_783 zw_784 zw_785 zCs_1 zcl_10 rfl (mt_fc_World_crosses e14) rfl ⟨by decide +kernel, by decide⟩ (Nat.le_of_ble_eq_true rfl) ?_
      refine zg_pop dd_85_54 rfl ?_
      refine zg_iinc dd_85_55 (j := 3) rfl (v := (v3 + (1 : Int32))) (by rw [kI_1]) (Nat.le_of_ble_eq_true rfl) (lv' := [(3, .inl (v3 + (1 : Int32))), (0, .inr (.inr (some 0))), (1, .inl v1), (2, .inl v2)]) rfl ?_
      refine zg_goto (tgt := 32) dd_85_58 (by decide) ?_
      refine zg_sub [1, 2, 3, 0] rfl ?_
      exact ih _ _ _ _ h
set_option maxRecDepth 20000 in
theorem mt_fc_T_stroll {I : zI} {a1 : Int32} {a2 : Int32} {res : (Int32 × zI)} (h : fc_T_stroll I a1 a2 = some res) : zM 6 ym_85 [.inr (.inr (some 0)), .inl a1, .inl a2] (zCs, zCr, I) (some (.inl res.1)) (zCs, zCr, res.2) 0 0 := by
  refine zM_of (by decide) (Nat.le_of_ble_eq_true rfl) (lv := [(0, .inr (.inr (some 0))), (1, .inl a1), (2, .inl a2)]) rfl ?_
  rw [fc_T_stroll] at h
  refine zg_aload_n dd_85_0 rfl (j := 0) rfl ?_
  refine zg_getR dd_85_1 zl_T_12 zCs_0 rfl zCr_0_0 ?_
  refine zg_getR dd_85_4 zl_T_255 zCs_1 rfl zCr_1_2 ?_
  refine zg_iload_n dd_85_7 rfl (j := 1) rfl ?_
  obtain ⟨r1, e2, h⟩ := z_bd h
  refine zg_invV_i (av := [.inl a1]) (st := []) (n := 1) dd_85_8 ca_82 zw_774 zw_775 zw_776 zCs_23 zcl_1 rfl (mt_fc_Folk_hasPerson e2) rfl ⟨by decide +kernel, by decide⟩ (Nat.le_of_ble_eq_true rfl) ?_
  refine zg_if_eq (tgt := 24) dd_85_11 (by decide) (fun q3 => ?_) (fun q3 => ?_)
  · replace h := z_t h q3
    refine zg_aload_n dd_85_24 rfl (j := 0) rfl ?_
    refine zg_iconst dd_85_25 kI_1 ?_
    obtain ⟨r4, e5, h⟩ := z_bd h
    refine zg_invV_i (av := [.inl (1 : Int32)]) (st := []) (n := 1) dd_85_26 ca_2 zw_430 zw_432 zv_0 zCs_0 zcl_11 rfl (mt_fc_T_refuse e5) rfl ⟨by decide +kernel, by decide⟩ (Nat.le_of_ble_eq_true rfl) ?_
    obtain rfl := Option.some.inj h
    exact zg_iret dd_85_29 rfl
  · replace h := z_f h q3
    refine zg_iload_n dd_85_14 rfl (j := 2) rfl ?_
    refine zg_iconst dd_85_15 kI_1 ?_
    refine zg_bipush dd_85_16 kB_60 ?_
    obtain ⟨r6, e7, h⟩ := z_bd h
    refine zg_invS_i (av := [.inl a2, .inl (1 : Int32), .inl (60 : Int32)]) (st := []) (n := 3) dd_85_18 ca_1 zw_427 zw_428 (mt_fc_T_within e7) rfl ⟨by decide +kernel, by decide⟩ (Nat.le_of_ble_eq_true rfl) ?_
    refine zg_if_ne (tgt := 30) dd_85_21 (by decide) (fun q8 => ?_) (fun q8 => ?_)
    · replace h := z_f h q8
      refine zg_iconst dd_85_30 kI_0 ?_
      refine zg_istore_n dd_85_31 rfl (Nat.le_of_ble_eq_true rfl) (lv' := [(3, .inl (0 : Int32)), (0, .inr (.inr (some 0))), (1, .inl a1), (2, .inl a2)]) rfl ?_
      refine zg_sub [1, 2, 3, 0] rfl ?_
      refine lt_fc_T_stroll_L32  _ _ _ _ _ h
    · replace h := z_t h q8
      refine zg_aload_n dd_85_24 rfl (j := 0) rfl ?_
      refine zg_iconst dd_85_25 kI_1 ?_
      obtain ⟨r15, e16, h⟩ := z_bd h
      refine zg_invV_i (av := [.inl (1 : Int32)]) (st := []) (n := 1) dd_85_26 ca_2 zw_430 zw_432 zv_0 zCs_0 zcl_11 rfl (mt_fc_T_refuse e16) rfl ⟨by decide +kernel, by decide⟩ (Nat.le_of_ble_eq_true rfl) ?_
      obtain rfl := Option.some.inj h
      exact zg_iret dd_85_29 rfl
/-! TurnedLand$Ways.survey[141, 1] -/
def fc_Ways_survey_2_L25 (k67 : Int32 → zI → Option zI) : Nat → Int32 → Int32 → zI → Option zI
  | 0, _, _, _ => none
  | nf + 1, v2, v3, I =>
    if (4 : Int32) ≤ v3 then
      k67 v2 I
    else
      z_guard (zb v2 16) <|
      (fc_Ground_comesTo I v2 v3).bind fun r4 =>
      z_guard (zb v3 4) <|
      (fc_World_hours (zup I (145 + v2.toNatClampNeg) v3.toNatClampNeg r4) v2 v3).bind fun r7 =>
      fc_Ways_survey_2_L25 k67 nf v2 (v3 + (1 : Int32)) (zup r7.2 (162 + v2.toNatClampNeg) v3.toNatClampNeg r7.1)
def fc_Ways_survey_2_L15 : Nat → Int32 → zI → Option zI
  | 0, _, _ => none
  | nf + 1, v2, I =>
    if (I 141 4) ≤ v2 then
      some I
    else
      fc_Ways_survey_2_L25
        (fun (u9 : Int32) (J10 : zI) =>
          fc_Ways_survey_2_L15 nf (u9 + (1 : Int32)) J10
        )
        100 v2 (0 : Int32) I
def fc_Ways_survey_2 (I : zI) : Option zI :=
  fc_Ways_survey_2_L15
    100 (0 : Int32) (zup I 141 4 ((2 : Int32) * (I 2 0)))
set_option maxRecDepth 20000 in
theorem lt_fc_Ways_survey_2_L25 {res : zI} {k67 : Int32 → zI → Option zI} (hk67 : ∀ (v2 : Int32) (J : zI), k67 v2 J = some res → zG 5 ym_51 0 0 none (zCs, zCr, res) zCs.length 67 [(0, .inr (.inr (some 141))), (1, .inr (.inr (some 1))), (2, .inl v2)] [] (zCs, zCr, J) 0 0) : ∀ (nf : Nat) (v2 : Int32) (v3 : Int32) (I : zI), fc_Ways_survey_2_L25 k67 nf v2 v3 I = some res → zG 5 ym_51 0 0 none (zCs, zCr, res) zCs.length 25 [(0, .inr (.inr (some 141))), (1, .inr (.inr (some 1))), (2, .inl v2), (3, .inl v3)] [] (zCs, zCr, I) 0 0 := by
  intro nf
  induction nf with
  | zero =>
    intro v2 v3 I h
    have h2 : none = some res := h
    cases h2
  | succ nf ih =>
    intro v2 v3 I h
    rw [fc_Ways_survey_2_L25] at h
    refine zg_iload_n dd_51_25 rfl (j := 3) rfl ?_
    refine zg_iconst dd_51_26 kI_4 ?_
    refine zg_icmp_ge (tgt := 67) dd_51_27 (by decide) (fun q2 => ?_) (fun q2 => ?_)
    · replace h := z_t h q2
      refine zg_sub [0, 1, 2] rfl ?_
      exact hk67 _ _ h
    · replace h := z_f h q2
      refine zg_aload_n dd_51_30 rfl (j := 0) rfl ?_
      refine zg_getR dd_51_31 zl_Ways_20 zCs_141 rfl zCr_141_2 ?_
      refine zg_iload_n dd_51_34 rfl (j := 2) rfl ?_
      obtain ⟨g3, h⟩ := z_gd h
      refine zg_aald1 dd_51_35 zCs_144 g3 (zrR_C_144 g3) ?_
      refine zg_iload_n dd_51_36 rfl (j := 3) rfl ?_
      refine zg_aload_n dd_51_37 rfl (j := 1) rfl ?_
      refine zg_getR dd_51_38 zl_Ways_30 zCs_1 rfl zCr_1_0 ?_
      refine zg_iload_n dd_51_41 rfl (j := 2) rfl ?_
      refine zg_iload_n dd_51_42 rfl (j := 3) rfl ?_
      obtain ⟨r4, e5, h⟩ := z_bd h
      refine zg_invV_i (av := [.inl v2, .inl v3]) (st := [.inl v3, .inr (.inr (some (145 + v2.toNatClampNeg)))]) (n := 2) dd_51_43 ca_52 zw_639 zw_640 zw_641 zCs_2 zcl_2 rfl (mt_fc_Ground_comesTo e5) rfl ⟨by decide +kernel, by decide⟩ (Nat.le_of_ble_eq_true rfl) ?_
      obtain ⟨g6, h⟩ := z_gd h
      refine zg_iast dd_51_46 (zrS_C_144 g3) g6 ?_
      refine zg_aload_n dd_51_47 rfl (j := 0) rfl ?_
      refine zg_getR dd_51_48 zl_Ways_23 zCs_141 rfl zCr_141_3 ?_
      refine zg_iload_n dd_51_51 rfl (j := 2) rfl ?_
      refine zg_aald1 dd_51_52 zCs_161 g3 (zrR_C_161 g3) ?_
      refine zg_iload_n dd_51_53 rfl (j := 3) rfl ?_
      refine zg_aload_n dd_51_54 rfl (j := 1) rfl ?_
      refine zg_iload_n dd_51_55 rfl (j := 2) rfl ?_
      refine zg_iload_n dd_51_56 rfl (j := 3) rfl ?_
      obtain ⟨r7, e8, h⟩ := z_bd h
      refine zg_invV_i (av := [.inl v2, .inl v3]) (st := [.inl v3, .inr (.inr (some (162 + v2.toNatClampNeg)))]) (n := 2) dd_51_57 ca_53 zw_644 zw_645 zw_646 zCs_1 zcl_10 rfl (mt_fc_World_hours e8) rfl ⟨by decide +kernel, by decide⟩ (Nat.le_of_ble_eq_true rfl) ?_
      refine zg_iast dd_51_60 (zrS_C_161 g3) g6 ?_
      refine zg_iinc dd_51_61 (j := 3) rfl (v := (v3 + (1 : Int32))) (by rw [kI_1]) (Nat.le_of_ble_eq_true rfl) (lv' := [(3, .inl (v3 + (1 : Int32))), (0, .inr (.inr (some 141))), (1, .inr (.inr (some 1))), (2, .inl v2)]) rfl ?_
      refine zg_goto (tgt := 25) dd_51_64 (by decide) ?_
      refine zg_sub [1, 2, 3, 0] rfl ?_
      exact ih _ _ _ h
set_option maxRecDepth 20000 in
theorem lt_fc_Ways_survey_2_L15 {res : zI} : ∀ (nf : Nat) (v2 : Int32) (I : zI), fc_Ways_survey_2_L15 nf v2 I = some res → zG 5 ym_51 0 0 none (zCs, zCr, res) zCs.length 15 [(0, .inr (.inr (some 141))), (1, .inr (.inr (some 1))), (2, .inl v2)] [] (zCs, zCr, I) 0 0 := by
  intro nf
  induction nf with
  | zero =>
    intro v2 I h
    have h2 : none = some res := h
    cases h2
  | succ nf ih =>
    intro v2 I h
    rw [fc_Ways_survey_2_L15] at h
    refine zg_iload_n dd_51_15 rfl (j := 2) rfl ?_
    refine zg_aload_n dd_51_16 rfl (j := 0) rfl ?_
    refine zg_getI (x := (I 141 4)) dd_51_17 zl_Ways_26 zCs_141 rfl rfl ?_
    refine zg_icmp_ge (tgt := 73) dd_51_20 (by decide) (fun q1 => ?_) (fun q1 => ?_)
    · replace h := z_t h q1
      obtain rfl := Option.some.inj h
      exact zg_vret dd_51_73 rfl
    · replace h := z_f h q1
      refine zg_iconst dd_51_23 kI_0 ?_
      refine zg_istore_n dd_51_24 rfl (Nat.le_of_ble_eq_true rfl) (lv' := [(3, .inl (0 : Int32)), (0, .inr (.inr (some 141))), (1, .inr (.inr (some 1))), (2, .inl v2)]) rfl ?_
      refine zg_sub [1, 2, 3, 0] rfl ?_
      refine lt_fc_Ways_survey_2_L25 ?_ _ _ _ _ h
      · intro u9 J10 h
        refine zg_iinc dd_51_67 (j := 2) rfl (v := (u9 + (1 : Int32))) (by rw [kI_1]) (Nat.le_of_ble_eq_true rfl) (lv' := [(2, .inl (u9 + (1 : Int32))), (0, .inr (.inr (some 141))), (1, .inr (.inr (some 1)))]) rfl ?_
        refine zg_goto (tgt := 15) dd_51_70 (by decide) ?_
        refine zg_sub [1, 2, 0] rfl ?_
        exact ih _ _ h
set_option maxRecDepth 20000 in
theorem mt_fc_Ways_survey_2 {I : zI} {res : zI} (h : fc_Ways_survey_2 I = some res) : zM 5 ym_51 [.inr (.inr (some 141)), .inr (.inr (some 1))] (zCs, zCr, I) none (zCs, zCr, res) 0 0 := by
  refine zM_of (by decide) (Nat.le_of_ble_eq_true rfl) (lv := [(0, .inr (.inr (some 141))), (1, .inr (.inr (some 1)))]) rfl ?_
  rw [fc_Ways_survey_2] at h
  refine zg_aload_n dd_51_0 rfl (j := 0) rfl ?_
  refine zg_iconst dd_51_1 kI_2 ?_
  refine zg_aload_n dd_51_2 rfl (j := 1) rfl ?_
  refine zg_getR dd_51_3 zl_Ways_30 zCs_1 rfl zCr_1_0 ?_
  refine zg_getI (x := (I 2 0)) dd_51_6 zl_Ways_36 zCs_2 rfl rfl ?_
  refine zg_imul dd_51_9 ?_
  refine zg_putI dd_51_10 zp_Ways_26 zCs_141 rfl (zSt_int _) ?_
  refine zg_iconst dd_51_13 kI_0 ?_
  refine zg_istore_n dd_51_14 rfl (Nat.le_of_ble_eq_true rfl) (lv' := [(2, .inl (0 : Int32)), (0, .inr (.inr (some 141))), (1, .inr (.inr (some 1)))]) rfl ?_
  refine zg_sub [1, 2, 0] rfl ?_
  refine lt_fc_Ways_survey_2_L15  _ _ _ h
/-! TurnedLand$Ways.nearest[141, None] -/
def fc_Ways_nearest_2_L4 (I : zI) : Nat → Int32 → Int32 → Int32 → Option Int32
  | 0, _, _, _ => none
  | nf + 1, v1, v2, v3 =>
    if (I 141 4) ≤ v3 then
      some v2
    else
      if ((v1 >>> (v3 &&& 31)) &&& (1 : Int32)) = (1 : Int32) then
        z_guard (zb v3 16) <|
        if (I 142 v3.toNatClampNeg) < 0 then
          fc_Ways_nearest_2_L4 I nf v1 v2 (v3 + (1 : Int32))
        else
          if v2 = (-1 : Int32) then
            fc_Ways_nearest_2_L4 I nf v1 v3 (v3 + (1 : Int32))
          else
            z_guard (zb v2 16) <|
            if (I 142 v2.toNatClampNeg) ≤ (I 142 v3.toNatClampNeg) then
              fc_Ways_nearest_2_L4 I nf v1 v2 (v3 + (1 : Int32))
            else
              fc_Ways_nearest_2_L4 I nf v1 v3 (v3 + (1 : Int32))
      else
        fc_Ways_nearest_2_L4 I nf v1 v2 (v3 + (1 : Int32))
def fc_Ways_nearest_2 (I : zI) (a1 : Int32) : Option Int32 :=
  fc_Ways_nearest_2_L4 I
    100 a1 (-1 : Int32) (0 : Int32)
set_option maxRecDepth 20000 in
theorem lt_fc_Ways_nearest_2_L4 {res : Int32} {I : zI} : ∀ (nf : Nat) (v1 : Int32) (v2 : Int32) (v3 : Int32), fc_Ways_nearest_2_L4 I nf v1 v2 v3 = some res → zG 1 ym_60 0 0 (some (.inl res)) (zCs, zCr, I) zCs.length 4 [(0, .inr (.inr (some 141))), (1, .inl v1), (2, .inl v2), (3, .inl v3)] [] (zCs, zCr, I) 0 0 := by
  intro nf
  induction nf with
  | zero =>
    intro v1 v2 v3 h
    have h2 : none = some res := h
    cases h2
  | succ nf ih =>
    intro v1 v2 v3 h
    rw [fc_Ways_nearest_2_L4] at h
    refine zg_iload_n dd_60_4 rfl (j := 3) rfl ?_
    refine zg_aload_n dd_60_5 rfl (j := 0) rfl ?_
    refine zg_getI (x := (I 141 4)) dd_60_6 zl_Ways_26 zCs_141 rfl rfl ?_
    refine zg_icmp_ge (tgt := 70) dd_60_9 (by decide) (fun q1 => ?_) (fun q1 => ?_)
    · replace h := z_t h q1
      refine zg_iload_n dd_60_70 rfl (j := 2) rfl ?_
      obtain rfl := Option.some.inj h
      exact zg_iret dd_60_71 rfl
    · replace h := z_f h q1
      refine zg_iload_n dd_60_12 rfl (j := 1) rfl ?_
      refine zg_iload_n dd_60_13 rfl (j := 3) rfl ?_
      refine zg_ishr dd_60_14 ?_
      refine zg_iconst dd_60_15 kI_1 ?_
      refine zg_iand dd_60_16 ?_
      refine zg_iconst dd_60_17 kI_1 ?_
      refine zg_icmp_ne (tgt := 34) dd_60_18 (by decide) (fun q2 => ?_) (fun q2 => ?_)
      · replace h := z_f h q2
        refine zg_iconst dd_60_34 kI_0 ?_
        refine zg_istore dd_60_35 (Nat.le_of_ble_eq_true rfl) (lv' := [(4, .inl (0 : Int32)), (0, .inr (.inr (some 141))), (1, .inl v1), (2, .inl v2), (3, .inl v3)]) rfl ?_
        refine zg_iload dd_60_37 (j := 0) rfl ?_
        refine zg_if_eq (tgt := 64) dd_60_39 (by decide) (fun _ => ?_) (fun q3 => absurd q3 (by decide))
        refine zg_iinc dd_60_64 (j := 4) rfl (v := (v3 + (1 : Int32))) (by rw [kI_1]) (Nat.le_of_ble_eq_true rfl) (lv' := [(3, .inl (v3 + (1 : Int32))), (4, .inl (0 : Int32)), (0, .inr (.inr (some 141))), (1, .inl v1), (2, .inl v2)]) rfl ?_
        refine zg_goto (tgt := 4) dd_60_67 (by decide) ?_
        refine zg_sub [2, 3, 4, 0] rfl ?_
        exact ih _ _ _ h
      · replace h := z_t h q2
        refine zg_aload_n dd_60_21 rfl (j := 0) rfl ?_
        refine zg_getR dd_60_22 zl_Ways_9 zCs_141 rfl zCr_141_0 ?_
        refine zg_iload_n dd_60_25 rfl (j := 3) rfl ?_
        obtain ⟨g4, h⟩ := z_gd h
        refine zg_iald (w := (I 142 v3.toNatClampNeg)) dd_60_26 zCs_142 g4 rfl ?_
        refine zg_if_lt (tgt := 34) dd_60_27 (by decide) (fun q5 => ?_) (fun q5 => ?_)
        · replace h := z_t h q5
          refine zg_iconst dd_60_34 kI_0 ?_
          refine zg_istore dd_60_35 (Nat.le_of_ble_eq_true rfl) (lv' := [(4, .inl (0 : Int32)), (0, .inr (.inr (some 141))), (1, .inl v1), (2, .inl v2), (3, .inl v3)]) rfl ?_
          refine zg_iload dd_60_37 (j := 0) rfl ?_
          refine zg_if_eq (tgt := 64) dd_60_39 (by decide) (fun _ => ?_) (fun q6 => absurd q6 (by decide))
          refine zg_iinc dd_60_64 (j := 4) rfl (v := (v3 + (1 : Int32))) (by rw [kI_1]) (Nat.le_of_ble_eq_true rfl) (lv' := [(3, .inl (v3 + (1 : Int32))), (4, .inl (0 : Int32)), (0, .inr (.inr (some 141))), (1, .inl v1), (2, .inl v2)]) rfl ?_
          refine zg_goto (tgt := 4) dd_60_67 (by decide) ?_
          refine zg_sub [2, 3, 4, 0] rfl ?_
          exact ih _ _ _ h
        · replace h := z_f h q5
          refine zg_iconst dd_60_30 kI_1 ?_
          refine zg_goto (tgt := 35) dd_60_31 (by decide) ?_
          refine zg_istore dd_60_35 (Nat.le_of_ble_eq_true rfl) (lv' := [(4, .inl (1 : Int32)), (0, .inr (.inr (some 141))), (1, .inl v1), (2, .inl v2), (3, .inl v3)]) rfl ?_
          refine zg_iload dd_60_37 (j := 0) rfl ?_
          refine zg_if_eq (tgt := 64) dd_60_39 (by decide) (fun q7 => absurd q7 (by decide)) (fun _ => ?_)
          refine zg_iload_n dd_60_42 rfl (j := 3) rfl ?_
          refine zg_iconst dd_60_43 kI_m1 ?_
          refine zg_icmp_eq (tgt := 62) dd_60_44 (by decide) (fun q8 => ?_) (fun q8 => ?_)
          · replace h := z_t h q8
            refine zg_iload_n dd_60_62 rfl (j := 4) rfl ?_
            refine zg_istore_n dd_60_63 rfl (Nat.le_of_ble_eq_true rfl) (lv' := [(2, .inl v3), (4, .inl (1 : Int32)), (0, .inr (.inr (some 141))), (1, .inl v1), (3, .inl v3)]) rfl ?_
            refine zg_iinc dd_60_64 (j := 4) rfl (v := (v3 + (1 : Int32))) (by rw [kI_1]) (Nat.le_of_ble_eq_true rfl) (lv' := [(3, .inl (v3 + (1 : Int32))), (2, .inl v3), (4, .inl (1 : Int32)), (0, .inr (.inr (some 141))), (1, .inl v1)]) rfl ?_
            refine zg_goto (tgt := 4) dd_60_67 (by decide) ?_
            refine zg_sub [3, 4, 1, 0] rfl ?_
            exact ih _ _ _ h
          · replace h := z_f h q8
            refine zg_aload_n dd_60_47 rfl (j := 1) rfl ?_
            refine zg_getR dd_60_48 zl_Ways_9 zCs_141 rfl zCr_141_0 ?_
            refine zg_iload_n dd_60_51 rfl (j := 4) rfl ?_
            refine zg_iald (w := (I 142 v3.toNatClampNeg)) dd_60_52 zCs_142 g4 rfl ?_
            refine zg_aload_n dd_60_53 rfl (j := 1) rfl ?_
            refine zg_getR dd_60_54 zl_Ways_9 zCs_141 rfl zCr_141_0 ?_
            refine zg_iload_n dd_60_57 rfl (j := 3) rfl ?_
            obtain ⟨g9, h⟩ := z_gd h
            refine zg_iald (w := (I 142 v2.toNatClampNeg)) dd_60_58 zCs_142 g9 rfl ?_
            refine zg_icmp_ge (tgt := 64) dd_60_59 (by decide) (fun q10 => ?_) (fun q10 => ?_)
            · replace h := z_t h q10
              refine zg_iinc dd_60_64 (j := 4) rfl (v := (v3 + (1 : Int32))) (by rw [kI_1]) (Nat.le_of_ble_eq_true rfl) (lv' := [(3, .inl (v3 + (1 : Int32))), (4, .inl (1 : Int32)), (0, .inr (.inr (some 141))), (1, .inl v1), (2, .inl v2)]) rfl ?_
              refine zg_goto (tgt := 4) dd_60_67 (by decide) ?_
              refine zg_sub [2, 3, 4, 0] rfl ?_
              exact ih _ _ _ h
            · replace h := z_f h q10
              refine zg_iload_n dd_60_62 rfl (j := 4) rfl ?_
              refine zg_istore_n dd_60_63 rfl (Nat.le_of_ble_eq_true rfl) (lv' := [(2, .inl v3), (4, .inl (1 : Int32)), (0, .inr (.inr (some 141))), (1, .inl v1), (3, .inl v3)]) rfl ?_
              refine zg_iinc dd_60_64 (j := 4) rfl (v := (v3 + (1 : Int32))) (by rw [kI_1]) (Nat.le_of_ble_eq_true rfl) (lv' := [(3, .inl (v3 + (1 : Int32))), (2, .inl v3), (4, .inl (1 : Int32)), (0, .inr (.inr (some 141))), (1, .inl v1)]) rfl ?_
              refine zg_goto (tgt := 4) dd_60_67 (by decide) ?_
              refine zg_sub [3, 4, 1, 0] rfl ?_
              exact ih _ _ _ h
set_option maxRecDepth 20000 in
theorem mt_fc_Ways_nearest_2 {I : zI} {a1 : Int32} {res : Int32} (h : fc_Ways_nearest_2 I a1 = some res) : zM 1 ym_60 [.inr (.inr (some 141)), .inl a1] (zCs, zCr, I) (some (.inl res)) (zCs, zCr, I) 0 0 := by
  refine zM_of (by decide) (Nat.le_of_ble_eq_true rfl) (lv := [(0, .inr (.inr (some 141))), (1, .inl a1)]) rfl ?_
  rw [fc_Ways_nearest_2] at h
  refine zg_iconst dd_60_0 kI_m1 ?_
  refine zg_istore_n dd_60_1 rfl (Nat.le_of_ble_eq_true rfl) (lv' := [(2, .inl (-1 : Int32)), (0, .inr (.inr (some 141))), (1, .inl a1)]) rfl ?_
  refine zg_iconst dd_60_2 kI_0 ?_
  refine zg_istore_n dd_60_3 rfl (Nat.le_of_ble_eq_true rfl) (lv' := [(3, .inl (0 : Int32)), (2, .inl (-1 : Int32)), (0, .inr (.inr (some 141))), (1, .inl a1)]) rfl ?_
  refine zg_sub [2, 3, 1, 0] rfl ?_
  refine lt_fc_Ways_nearest_2_L4  _ _ _ _ h
/-! TurnedLand$Ways.comeTo[141, None, None, None] -/
def fc_Ways_comeTo_2 (I : zI) (a1 : Int32) (a2 : Int32) (a3 : Int32) : Option zI :=
  z_guard (zb a1 16) <|
  if (I 142 a1.toNatClampNeg) < 0 then
    some (zup (zup I 142 a1.toNatClampNeg a2) 143 a1.toNatClampNeg a3)
  else
    if (I 142 a1.toNatClampNeg) ≤ a2 then
      if a2 = (I 142 a1.toNatClampNeg) then
        some (zup I 143 a1.toNatClampNeg ((I 143 a1.toNatClampNeg) ||| a3))
      else
        some I
    else
      some (zup (zup I 142 a1.toNatClampNeg a2) 143 a1.toNatClampNeg a3)
set_option maxRecDepth 20000 in
theorem mt_fc_Ways_comeTo_2 {I : zI} {a1 : Int32} {a2 : Int32} {a3 : Int32} {res : zI} (h : fc_Ways_comeTo_2 I a1 a2 a3 = some res) : zM 1 ym_61 [.inr (.inr (some 141)), .inl a1, .inl a2, .inl a3] (zCs, zCr, I) none (zCs, zCr, res) 0 0 := by
  refine zM_of (by decide) (Nat.le_of_ble_eq_true rfl) (lv := [(0, .inr (.inr (some 141))), (1, .inl a1), (2, .inl a2), (3, .inl a3)]) rfl ?_
  rw [fc_Ways_comeTo_2] at h
  refine zg_aload_n dd_61_0 rfl (j := 0) rfl ?_
  refine zg_getR dd_61_1 zl_Ways_9 zCs_141 rfl zCr_141_0 ?_
  refine zg_iload_n dd_61_4 rfl (j := 1) rfl ?_
  obtain ⟨g1, h⟩ := z_gd h
  refine zg_iald (w := (I 142 a1.toNatClampNeg)) dd_61_5 zCs_142 g1 rfl ?_
  refine zg_if_lt (tgt := 19) dd_61_6 (by decide) (fun q2 => ?_) (fun q2 => ?_)
  · replace h := z_t h q2
    refine zg_aload_n dd_61_19 rfl (j := 0) rfl ?_
    refine zg_getR dd_61_20 zl_Ways_9 zCs_141 rfl zCr_141_0 ?_
    refine zg_iload_n dd_61_23 rfl (j := 1) rfl ?_
    refine zg_iload_n dd_61_24 rfl (j := 2) rfl ?_
    refine zg_iast dd_61_25 zCs_142 g1 ?_
    refine zg_aload_n dd_61_26 rfl (j := 0) rfl ?_
    refine zg_getR dd_61_27 zl_Ways_15 zCs_141 rfl zCr_141_1 ?_
    refine zg_iload_n dd_61_30 rfl (j := 1) rfl ?_
    refine zg_iload_n dd_61_31 rfl (j := 3) rfl ?_
    refine zg_iast dd_61_32 zCs_143 g1 ?_
    refine zg_goto (tgt := 56) dd_61_33 (by decide) ?_
    obtain rfl := Option.some.inj h
    exact zg_vret dd_61_56 rfl
  · replace h := z_f h q2
    refine zg_iload_n dd_61_9 rfl (j := 2) rfl ?_
    refine zg_aload_n dd_61_10 rfl (j := 0) rfl ?_
    refine zg_getR dd_61_11 zl_Ways_9 zCs_141 rfl zCr_141_0 ?_
    refine zg_iload_n dd_61_14 rfl (j := 1) rfl ?_
    refine zg_iald (w := (I 142 a1.toNatClampNeg)) dd_61_15 zCs_142 g1 rfl ?_
    refine zg_icmp_ge (tgt := 36) dd_61_16 (by decide) (fun q3 => ?_) (fun q3 => ?_)
    · replace h := z_t h q3
      refine zg_iload_n dd_61_36 rfl (j := 2) rfl ?_
      refine zg_aload_n dd_61_37 rfl (j := 0) rfl ?_
      refine zg_getR dd_61_38 zl_Ways_9 zCs_141 rfl zCr_141_0 ?_
      refine zg_iload_n dd_61_41 rfl (j := 1) rfl ?_
      refine zg_iald (w := (I 142 a1.toNatClampNeg)) dd_61_42 zCs_142 g1 rfl ?_
      refine zg_icmp_ne (tgt := 56) dd_61_43 (by decide) (fun q4 => ?_) (fun q4 => ?_)
      · replace h := z_f h q4
        obtain rfl := Option.some.inj h
        exact zg_vret dd_61_56 rfl
      · replace h := z_t h q4
        refine zg_aload_n dd_61_46 rfl (j := 0) rfl ?_
        refine zg_getR dd_61_47 zl_Ways_15 zCs_141 rfl zCr_141_1 ?_
        refine zg_iload_n dd_61_50 rfl (j := 1) rfl ?_
        refine zg_dup2 dd_61_51 rfl rfl ?_
        refine zg_iald (w := (I 143 a1.toNatClampNeg)) dd_61_52 zCs_143 g1 rfl ?_
        refine zg_iload_n dd_61_53 rfl (j := 3) rfl ?_
        refine zg_ior dd_61_54 ?_
        refine zg_iast dd_61_55 zCs_143 g1 ?_
        obtain rfl := Option.some.inj h
        exact zg_vret dd_61_56 rfl
    · replace h := z_f h q3
      refine zg_aload_n dd_61_19 rfl (j := 0) rfl ?_
      refine zg_getR dd_61_20 zl_Ways_9 zCs_141 rfl zCr_141_0 ?_
      refine zg_iload_n dd_61_23 rfl (j := 1) rfl ?_
      refine zg_iload_n dd_61_24 rfl (j := 2) rfl ?_
      refine zg_iast dd_61_25 zCs_142 g1 ?_
      refine zg_aload_n dd_61_26 rfl (j := 0) rfl ?_
      refine zg_getR dd_61_27 zl_Ways_15 zCs_141 rfl zCr_141_1 ?_
      refine zg_iload_n dd_61_30 rfl (j := 1) rfl ?_
      refine zg_iload_n dd_61_31 rfl (j := 3) rfl ?_
      refine zg_iast dd_61_32 zCs_143 g1 ?_
      refine zg_goto (tgt := 56) dd_61_33 (by decide) ?_
      obtain rfl := Option.some.inj h
      exact zg_vret dd_61_56 rfl
