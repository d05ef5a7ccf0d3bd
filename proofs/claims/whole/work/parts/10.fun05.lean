/-! TurnedLand.forget(0,) -/
def fc_T_forget (I : zI) : Option (Int32 × zI) :=
  some ((I 29 1), (zup I 29 1 (0 : Int32)))
set_option maxRecDepth 20000 in
theorem mt_fc_T_forget {I : zI} {res : (Int32 × zI)} (h : fc_T_forget I = some res) : zM 1 ym_98 [.inr (.inr (some 0))] (zCs, zCr, I) (some (.inl res.1)) (zCs, zCr, res.2) 0 0 := by
  refine zM_of (by decide) (Nat.le_of_ble_eq_true rfl) (lv := [(0, .inr (.inr (some 0)))]) rfl ?_
  rw [fc_T_forget] at h
  refine zg_aload_n dd_98_0 rfl (j := 0) rfl ?_
  refine zg_getR dd_98_1 zl_T_12 zCs_0 rfl zCr_0_0 ?_
  refine zg_getR dd_98_4 zl_T_122 zCs_1 rfl zCr_1_3 ?_
  refine zg_getI (x := (I 29 1)) dd_98_7 zl_T_311 zCs_29 rfl rfl ?_
  refine zg_istore_n dd_98_10 rfl (Nat.le_of_ble_eq_true rfl) (lv' := [(1, .inl (I 29 1)), (0, .inr (.inr (some 0)))]) rfl ?_
  refine zg_aload_n dd_98_11 rfl (j := 1) rfl ?_
  refine zg_getR dd_98_12 zl_T_12 zCs_0 rfl zCr_0_0 ?_
  refine zg_getR dd_98_15 zl_T_122 zCs_1 rfl zCr_1_3 ?_
  refine zg_iconst dd_98_18 kI_0 ?_
  refine zg_putI dd_98_19 zp_T_311 zCs_29 rfl (zSt_int _) ?_
  refine zg_iload_n dd_98_22 rfl (j := 0) rfl ?_
  obtain rfl := Option.some.inj h
  exact zg_iret dd_98_23 rfl
/-! TurnedLand$Ground.turnedSet[2] -/
def fc_Ground_turnedSet_L4 (I : zI) : Nat → Int32 → Int32 → Option Int32
  | 0, _, _ => none
  | nf + 1, v1, v2 =>
    if (I 2 2) ≤ v2 then
      some v1
    else
      z_guard (zb v2 16) <|
      fc_Ground_turnedSet_L4 I nf (v1 ||| ((I 5 v2.toNatClampNeg) <<< (v2 &&& 31))) (v2 + (1 : Int32))
def fc_Ground_turnedSet (I : zI) : Option Int32 :=
  fc_Ground_turnedSet_L4 I
    100 (0 : Int32) (0 : Int32)
set_option maxRecDepth 20000 in
theorem lt_fc_Ground_turnedSet_L4 {res : Int32} {I : zI} : ∀ (nf : Nat) (v1 : Int32) (v2 : Int32), fc_Ground_turnedSet_L4 I nf v1 v2 = some res → zG 1 ym_101 0 0 (some (.inl res)) (zCs, zCr, I) zCs.length 4 [(0, .inr (.inr (some 2))), (1, .inl v1), (2, .inl v2)] [] (zCs, zCr, I) 0 0 := by
  intro nf
  induction nf with
  | zero =>
    intro v1 v2 h
    have h2 : none = some res := h
    cases h2
  | succ nf ih =>
    intro v1 v2 h
    rw [fc_Ground_turnedSet_L4] at h
    refine zg_iload_n dd_101_4 rfl (j := 2) rfl ?_
    refine zg_aload_n dd_101_5 rfl (j := 0) rfl ?_
    refine zg_getI (x := (I 2 2)) dd_101_6 zl_Ground_19 zCs_2 rfl rfl ?_
    refine zg_icmp_ge (tgt := 29) dd_101_9 (by decide) (fun q1 => ?_) (fun q1 => ?_)
    · replace h := z_t h q1
      refine zg_iload_n dd_101_29 rfl (j := 1) rfl ?_
      obtain rfl := Option.some.inj h
      exact zg_iret dd_101_30 rfl
    · replace h := z_f h q1
      refine zg_iload_n dd_101_12 rfl (j := 1) rfl ?_
      refine zg_aload_n dd_101_13 rfl (j := 0) rfl ?_
      refine zg_getR dd_101_14 zl_Ground_25 zCs_2 rfl zCr_2_4 ?_
      refine zg_iload_n dd_101_17 rfl (j := 2) rfl ?_
      obtain ⟨g2, h⟩ := z_gd h
      refine zg_iald (w := (I 5 v2.toNatClampNeg)) dd_101_18 zCs_5 g2 rfl ?_
      refine zg_iload_n dd_101_19 rfl (j := 2) rfl ?_
      refine zg_ishl dd_101_20 ?_
      refine zg_ior dd_101_21 ?_
      refine zg_istore_n dd_101_22 rfl (Nat.le_of_ble_eq_true rfl) (lv' := [(1, .inl (v1 ||| ((I 5 v2.toNatClampNeg) <<< (v2 &&& 31)))), (0, .inr (.inr (some 2))), (2, .inl v2)]) rfl ?_
      refine zg_iinc dd_101_23 (j := 2) rfl (v := (v2 + (1 : Int32))) (by rw [kI_1]) (Nat.le_of_ble_eq_true rfl) (lv' := [(2, .inl (v2 + (1 : Int32))), (1, .inl (v1 ||| ((I 5 v2.toNatClampNeg) <<< (v2 &&& 31)))), (0, .inr (.inr (some 2)))]) rfl ?_
      refine zg_goto (tgt := 4) dd_101_26 (by decide) ?_
      refine zg_sub [2, 1, 0] rfl ?_
      exact ih _ _ h
set_option maxRecDepth 20000 in
theorem mt_fc_Ground_turnedSet {I : zI} {res : Int32} (h : fc_Ground_turnedSet I = some res) : zM 1 ym_101 [.inr (.inr (some 2))] (zCs, zCr, I) (some (.inl res)) (zCs, zCr, I) 0 0 := by
  refine zM_of (by decide) (Nat.le_of_ble_eq_true rfl) (lv := [(0, .inr (.inr (some 2)))]) rfl ?_
  rw [fc_Ground_turnedSet] at h
  refine zg_iconst dd_101_0 kI_0 ?_
  refine zg_istore_n dd_101_1 rfl (Nat.le_of_ble_eq_true rfl) (lv' := [(1, .inl (0 : Int32)), (0, .inr (.inr (some 2)))]) rfl ?_
  refine zg_iconst dd_101_2 kI_0 ?_
  refine zg_istore_n dd_101_3 rfl (Nat.le_of_ble_eq_true rfl) (lv' := [(2, .inl (0 : Int32)), (1, .inl (0 : Int32)), (0, .inr (.inr (some 2)))]) rfl ?_
  refine zg_sub [2, 1, 0] rfl ?_
  refine lt_fc_Ground_turnedSet_L4  _ _ _ h
/-! TurnedLand$Doubts.turnsOver[None, None] -/
def fc_Doubts_turnsOver (I : zI) (a0 : Int32) (a1 : Int32) : Option Int32 :=
  (fc_JInteger_bitCount I (a0 &&& a1)).bind fun r1 =>
  some (r1 &&& (1 : Int32))
set_option maxRecDepth 20000 in
theorem mt_fc_Doubts_turnsOver {I : zI} {a0 : Int32} {a1 : Int32} {res : Int32} (h : fc_Doubts_turnsOver I a0 a1 = some res) : zM 2 ym_103 [.inl a0, .inl a1] (zCs, zCr, I) (some (.inl res)) (zCs, zCr, I) 0 0 := by
  refine zM_of (by decide) (Nat.le_of_ble_eq_true rfl) (lv := [(0, .inl a0), (1, .inl a1)]) rfl ?_
  rw [fc_Doubts_turnsOver] at h
  refine zg_iload_n dd_103_0 rfl (j := 0) rfl ?_
  refine zg_iload_n dd_103_1 rfl (j := 1) rfl ?_
  refine zg_iand dd_103_2 ?_
  obtain ⟨r1, e2, h⟩ := z_bd h
  refine zg_invS_i (av := [.inl (a0 &&& a1)]) (st := []) (n := 1) dd_103_3 ca_26 zw_870 zw_528 (mt_fc_JInteger_bitCount e2) rfl ⟨by decide +kernel, by decide⟩ (Nat.le_of_ble_eq_true rfl) ?_
  refine zg_iconst dd_103_6 kI_1 ?_
  refine zg_iand dd_103_7 ?_
  obtain rfl := Option.some.inj h
  exact zg_iret dd_103_8 rfl
/-! TurnedLand$Doubts.areSo[29, None] -/
def fc_Doubts_areSo_L2 (I : zI) : Nat → Int32 → Int32 → Option Int32
  | 0, _, _ => none
  | nf + 1, v1, v2 =>
    if (I 29 1) ≤ v2 then
      some (1 : Int32)
    else
      z_guard (zb v2 12) <|
      z_guard (zb (I 30 v2.toNatClampNeg) 10) <|
      if (I 34 (I 30 v2.toNatClampNeg).toNatClampNeg) < 0 then
        some (0 : Int32)
      else
        (fc_Doubts_turnsOver I (I 34 (I 30 v2.toNatClampNeg).toNatClampNeg) v1).bind fun r5 =>
        if r5 = (I 31 v2.toNatClampNeg) then
          fc_Doubts_areSo_L2 I nf v1 (v2 + (1 : Int32))
        else
          some (0 : Int32)
def fc_Doubts_areSo (I : zI) (a1 : Int32) : Option Int32 :=
  fc_Doubts_areSo_L2 I
    100 a1 (0 : Int32)
set_option maxRecDepth 20000 in
theorem lt_fc_Doubts_areSo_L2 {res : Int32} {I : zI} : ∀ (nf : Nat) (v1 : Int32) (v2 : Int32), fc_Doubts_areSo_L2 I nf v1 v2 = some res → zG 3 ym_102 0 0 (some (.inl res)) (zCs, zCr, I) zCs.length 2 [(0, .inr (.inr (some 29))), (1, .inl v1), (2, .inl v2)] [] (zCs, zCr, I) 0 0 := by
  intro nf
  induction nf with
  | zero =>
    intro v1 v2 h
    have h2 : none = some res := h
    cases h2
  | succ nf ih =>
    intro v1 v2 h
    rw [fc_Doubts_areSo_L2] at h
    refine zg_iload_n dd_102_2 rfl (j := 2) rfl ?_
    refine zg_aload_n dd_102_3 rfl (j := 0) rfl ?_
    refine zg_getI (x := (I 29 1)) dd_102_4 zl_Doubts_15 zCs_29 rfl rfl ?_
    refine zg_icmp_ge (tgt := 48) dd_102_7 (by decide) (fun q1 => ?_) (fun q1 => ?_)
    · replace h := z_t h q1
      refine zg_iconst dd_102_48 kI_1 ?_
      obtain rfl := Option.some.inj h
      exact zg_zret dd_102_49 rfl zSt_b1.1
    · replace h := z_f h q1
      refine zg_aload_n dd_102_10 rfl (j := 0) rfl ?_
      refine zg_getR dd_102_11 zl_Doubts_34 zCs_29 rfl zCr_29_7 ?_
      refine zg_aload_n dd_102_14 rfl (j := 0) rfl ?_
      refine zg_getR dd_102_15 zl_Doubts_18 zCs_29 rfl zCr_29_2 ?_
      refine zg_iload_n dd_102_18 rfl (j := 2) rfl ?_
      obtain ⟨g2, h⟩ := z_gd h
      refine zg_iald (w := (I 30 v2.toNatClampNeg)) dd_102_19 zCs_30 g2 rfl ?_
      obtain ⟨g3, h⟩ := z_gd h
      refine zg_iald (w := (I 34 (I 30 v2.toNatClampNeg).toNatClampNeg)) dd_102_20 zCs_34 g3 rfl ?_
      refine zg_istore_n dd_102_21 rfl (Nat.le_of_ble_eq_true rfl) (lv' := [(3, .inl (I 34 (I 30 v2.toNatClampNeg).toNatClampNeg)), (0, .inr (.inr (some 29))), (1, .inl v1), (2, .inl v2)]) rfl ?_
      refine zg_iload_n dd_102_22 rfl (j := 0) rfl ?_
      refine zg_if_lt (tgt := 40) dd_102_23 (by decide) (fun q4 => ?_) (fun q4 => ?_)
      · replace h := z_t h q4
        refine zg_iconst dd_102_40 kI_0 ?_
        obtain rfl := Option.some.inj h
        exact zg_zret dd_102_41 rfl zSt_b0.1
      · replace h := z_f h q4
        refine zg_iload_n dd_102_26 rfl (j := 0) rfl ?_
        refine zg_iload_n dd_102_27 rfl (j := 2) rfl ?_
        obtain ⟨r5, e6, h⟩ := z_bd h
        refine zg_invS_i (av := [.inl (I 34 (I 30 v2.toNatClampNeg).toNatClampNeg), .inl v1]) (st := []) (n := 2) dd_102_28 ca_103 zw_875 zw_876 (mt_fc_Doubts_turnsOver e6) rfl ⟨by decide +kernel, by decide⟩ (Nat.le_of_ble_eq_true rfl) ?_
        refine zg_aload_n dd_102_31 rfl (j := 1) rfl ?_
        refine zg_getR dd_102_32 zl_Doubts_22 zCs_29 rfl zCr_29_3 ?_
        refine zg_iload_n dd_102_35 rfl (j := 3) rfl ?_
        refine zg_iald (w := (I 31 v2.toNatClampNeg)) dd_102_36 zCs_31 g2 rfl ?_
        refine zg_icmp_eq (tgt := 42) dd_102_37 (by decide) (fun q7 => ?_) (fun q7 => ?_)
        · replace h := z_t h q7
          refine zg_iinc dd_102_42 (j := 3) rfl (v := (v2 + (1 : Int32))) (by rw [kI_1]) (Nat.le_of_ble_eq_true rfl) (lv' := [(2, .inl (v2 + (1 : Int32))), (3, .inl (I 34 (I 30 v2.toNatClampNeg).toNatClampNeg)), (0, .inr (.inr (some 29))), (1, .inl v1)]) rfl ?_
          refine zg_goto (tgt := 2) dd_102_45 (by decide) ?_
          refine zg_sub [2, 3, 0] rfl ?_
          exact ih _ _ h
        · replace h := z_f h q7
          refine zg_iconst dd_102_40 kI_0 ?_
          obtain rfl := Option.some.inj h
          exact zg_zret dd_102_41 rfl zSt_b0.1
set_option maxRecDepth 20000 in
theorem mt_fc_Doubts_areSo {I : zI} {a1 : Int32} {res : Int32} (h : fc_Doubts_areSo I a1 = some res) : zM 3 ym_102 [.inr (.inr (some 29)), .inl a1] (zCs, zCr, I) (some (.inl res)) (zCs, zCr, I) 0 0 := by
  refine zM_of (by decide) (Nat.le_of_ble_eq_true rfl) (lv := [(0, .inr (.inr (some 29))), (1, .inl a1)]) rfl ?_
  rw [fc_Doubts_areSo] at h
  refine zg_iconst dd_102_0 kI_0 ?_
  refine zg_istore_n dd_102_1 rfl (Nat.le_of_ble_eq_true rfl) (lv' := [(2, .inl (0 : Int32)), (0, .inr (.inr (some 29))), (1, .inl a1)]) rfl ?_
  refine zg_sub [1, 2, 0] rfl ?_
  refine lt_fc_Doubts_areSo_L2  _ _ _ h
/-! TurnedLand$Doubts.countIn[29, 1, None] -/
def fc_Doubts_countIn_L45 : Nat → Int32 → Int32 → zI → Option zI
  | 0, _, _, _ => none
  | nf + 1, v2, v3, I =>
    if (I 7 0) ≤ v3 then
      some I
    else
      z_guard (zb v3 10) <|
      if (I 34 v3.toNatClampNeg) < 0 then
        fc_Doubts_countIn_L45 nf v2 (v3 + (1 : Int32)) I
      else
        (fc_Doubts_turnsOver I (I 34 v3.toNatClampNeg) v2).bind fun r5 =>
        fc_Doubts_countIn_L45 nf v2 (v3 + (1 : Int32)) (zup I 33 v3.toNatClampNeg ((I 33 v3.toNatClampNeg) + ((1 : Int32) - r5)))
def fc_Doubts_countIn_L12 : Nat → Int32 → Int32 → zI → Option zI
  | 0, _, _, _ => none
  | nf + 1, v2, v3, I =>
    if (I 2 2) ≤ v3 then
      fc_Doubts_countIn_L45
        100 v2 (0 : Int32) I
    else
      z_guard (zb v3 16) <|
      fc_Doubts_countIn_L12 nf v2 (v3 + (1 : Int32)) (zup I 32 v3.toNatClampNeg ((I 32 v3.toNatClampNeg) + ((v2 >>> (v3 &&& 31)) &&& (1 : Int32))))
def fc_Doubts_countIn (I : zI) (a2 : Int32) : Option zI :=
  fc_Doubts_countIn_L12
    100 a2 (0 : Int32) (zup I 29 4 ((I 29 4) + (1 : Int32)))
set_option maxRecDepth 20000 in
theorem lt_fc_Doubts_countIn_L45 {res : zI} : ∀ (nf : Nat) (v2 : Int32) (v3 : Int32) (I : zI), fc_Doubts_countIn_L45 nf v2 v3 I = some res → zG 3 ym_104 0 0 none (zCs, zCr, res) zCs.length 45 [(0, .inr (.inr (some 29))), (1, .inr (.inr (some 1))), (2, .inl v2), (3, .inl v3)] [] (zCs, zCr, I) 0 0 := by
  intro nf
  induction nf with
  | zero =>
    intro v2 v3 I h
    have h2 : none = some res := h
    cases h2
  | succ nf ih =>
    intro v2 v3 I h
    rw [fc_Doubts_countIn_L45] at h
    refine zg_iload_n dd_104_45 rfl (j := 3) rfl ?_
    refine zg_aload_n dd_104_46 rfl (j := 1) rfl ?_
    refine zg_getR dd_104_47 zl_Doubts_43 zCs_1 rfl zCr_1_1 ?_
    refine zg_getI (x := (I 7 0)) dd_104_50 zl_Doubts_49 zCs_7 rfl rfl ?_
    refine zg_icmp_ge (tgt := 92) dd_104_53 (by decide) (fun q2 => ?_) (fun q2 => ?_)
    · replace h := z_t h q2
      obtain rfl := Option.some.inj h
      exact zg_vret dd_104_92 rfl
    · replace h := z_f h q2
      refine zg_aload_n dd_104_56 rfl (j := 0) rfl ?_
      refine zg_getR dd_104_57 zl_Doubts_34 zCs_29 rfl zCr_29_7 ?_
      refine zg_iload_n dd_104_60 rfl (j := 3) rfl ?_
      obtain ⟨g3, h⟩ := z_gd h
      refine zg_iald (w := (I 34 v3.toNatClampNeg)) dd_104_61 zCs_34 g3 rfl ?_
      refine zg_if_lt (tgt := 86) dd_104_62 (by decide) (fun q4 => ?_) (fun q4 => ?_)
      · replace h := z_t h q4
        refine zg_iinc dd_104_86 (j := 3) rfl (v := (v3 + (1 : Int32))) (by rw [kI_1]) (Nat.le_of_ble_eq_true rfl) (lv' := [(3, .inl (v3 + (1 : Int32))), (0, .inr (.inr (some 29))), (1, .inr (.inr (some 1))), (2, .inl v2)]) rfl ?_
        refine zg_goto (tgt := 45) dd_104_89 (by decide) ?_
        refine zg_sub [1, 2, 3, 0] rfl ?_
        exact ih _ _ _ h
      · replace h := z_f h q4
        refine zg_aload_n dd_104_65 rfl (j := 0) rfl ?_
        refine zg_getR dd_104_66 zl_Doubts_31 zCs_29 rfl zCr_29_6 ?_
        refine zg_iload_n dd_104_69 rfl (j := 3) rfl ?_
        refine zg_dup2 dd_104_70 rfl rfl ?_
        refine zg_iald (w := (I 33 v3.toNatClampNeg)) dd_104_71 zCs_33 g3 rfl ?_
        refine zg_iconst dd_104_72 kI_1 ?_
        refine zg_aload_n dd_104_73 rfl (j := 0) rfl ?_
        refine zg_getR dd_104_74 zl_Doubts_34 zCs_29 rfl zCr_29_7 ?_
        refine zg_iload_n dd_104_77 rfl (j := 3) rfl ?_
        refine zg_iald (w := (I 34 v3.toNatClampNeg)) dd_104_78 zCs_34 g3 rfl ?_
        refine zg_iload_n dd_104_79 rfl (j := 2) rfl ?_
        obtain ⟨r5, e6, h⟩ := z_bd h
        refine zg_invS_i (av := [.inl (I 34 v3.toNatClampNeg), .inl v2]) (st := [.inl (1 : Int32), .inl (I 33 v3.toNatClampNeg), .inl v3, .inr (.inr (some 33))]) (n := 2) dd_104_80 ca_103 zw_875 zw_876 (mt_fc_Doubts_turnsOver e6) rfl ⟨by decide +kernel, by decide⟩ (Nat.le_of_ble_eq_true rfl) ?_
        refine zg_isub dd_104_83 ?_
        refine zg_iadd dd_104_84 ?_
        refine zg_iast dd_104_85 zCs_33 g3 ?_
        refine zg_iinc dd_104_86 (j := 3) rfl (v := (v3 + (1 : Int32))) (by rw [kI_1]) (Nat.le_of_ble_eq_true rfl) (lv' := [(3, .inl (v3 + (1 : Int32))), (0, .inr (.inr (some 29))), (1, .inr (.inr (some 1))), (2, .inl v2)]) rfl ?_
        refine zg_goto (tgt := 45) dd_104_89 (by decide) ?_
        refine zg_sub [1, 2, 3, 0] rfl ?_
        exact ih _ _ _ h
set_option maxRecDepth 20000 in
theorem lt_fc_Doubts_countIn_L12 {res : zI} : ∀ (nf : Nat) (v2 : Int32) (v3 : Int32) (I : zI), fc_Doubts_countIn_L12 nf v2 v3 I = some res → zG 3 ym_104 0 0 none (zCs, zCr, res) zCs.length 12 [(0, .inr (.inr (some 29))), (1, .inr (.inr (some 1))), (2, .inl v2), (3, .inl v3)] [] (zCs, zCr, I) 0 0 := by
  intro nf
  induction nf with
  | zero =>
    intro v2 v3 I h
    have h2 : none = some res := h
    cases h2
  | succ nf ih =>
    intro v2 v3 I h
    rw [fc_Doubts_countIn_L12] at h
    refine zg_iload_n dd_104_12 rfl (j := 3) rfl ?_
    refine zg_aload_n dd_104_13 rfl (j := 1) rfl ?_
    refine zg_getR dd_104_14 zl_Doubts_69 zCs_1 rfl zCr_1_0 ?_
    refine zg_getI (x := (I 2 2)) dd_104_17 zl_Doubts_102 zCs_2 rfl rfl ?_
    refine zg_icmp_ge (tgt := 43) dd_104_20 (by decide) (fun q1 => ?_) (fun q1 => ?_)
    · replace h := z_t h q1
      refine zg_iconst dd_104_43 kI_0 ?_
      refine zg_istore_n dd_104_44 rfl (Nat.le_of_ble_eq_true rfl) (lv' := [(3, .inl (0 : Int32)), (0, .inr (.inr (some 29))), (1, .inr (.inr (some 1))), (2, .inl v2)]) rfl ?_
      refine zg_sub [1, 2, 3, 0] rfl ?_
      refine lt_fc_Doubts_countIn_L45  _ _ _ _ h
    · replace h := z_f h q1
      refine zg_aload_n dd_104_23 rfl (j := 0) rfl ?_
      refine zg_getR dd_104_24 zl_Doubts_28 zCs_29 rfl zCr_29_5 ?_
      refine zg_iload_n dd_104_27 rfl (j := 3) rfl ?_
      refine zg_dup2 dd_104_28 rfl rfl ?_
      obtain ⟨g7, h⟩ := z_gd h
      refine zg_iald (w := (I 32 v3.toNatClampNeg)) dd_104_29 zCs_32 g7 rfl ?_
      refine zg_iload_n dd_104_30 rfl (j := 2) rfl ?_
      refine zg_iload_n dd_104_31 rfl (j := 3) rfl ?_
      refine zg_ishr dd_104_32 ?_
      refine zg_iconst dd_104_33 kI_1 ?_
      refine zg_iand dd_104_34 ?_
      refine zg_iadd dd_104_35 ?_
      refine zg_iast dd_104_36 zCs_32 g7 ?_
      refine zg_iinc dd_104_37 (j := 3) rfl (v := (v3 + (1 : Int32))) (by rw [kI_1]) (Nat.le_of_ble_eq_true rfl) (lv' := [(3, .inl (v3 + (1 : Int32))), (0, .inr (.inr (some 29))), (1, .inr (.inr (some 1))), (2, .inl v2)]) rfl ?_
      refine zg_goto (tgt := 12) dd_104_40 (by decide) ?_
      refine zg_sub [1, 2, 3, 0] rfl ?_
      exact ih _ _ _ h
set_option maxRecDepth 20000 in
theorem mt_fc_Doubts_countIn {I : zI} {a2 : Int32} {res : zI} (h : fc_Doubts_countIn I a2 = some res) : zM 3 ym_104 [.inr (.inr (some 29)), .inr (.inr (some 1)), .inl a2] (zCs, zCr, I) none (zCs, zCr, res) 0 0 := by
  refine zM_of (by decide) (Nat.le_of_ble_eq_true rfl) (lv := [(0, .inr (.inr (some 29))), (1, .inr (.inr (some 1))), (2, .inl a2)]) rfl ?_
  rw [fc_Doubts_countIn] at h
  refine zg_aload_n dd_104_0 rfl (j := 0) rfl ?_
  refine zg_dup dd_104_1 rfl ?_
  refine zg_getI (x := (I 29 4)) dd_104_2 zl_Doubts_25 zCs_29 rfl rfl ?_
  refine zg_iconst dd_104_5 kI_1 ?_
  refine zg_iadd dd_104_6 ?_
  refine zg_putI dd_104_7 zp_Doubts_25 zCs_29 rfl (zSt_int _) ?_
  refine zg_iconst dd_104_10 kI_0 ?_
  refine zg_istore_n dd_104_11 rfl (Nat.le_of_ble_eq_true rfl) (lv' := [(3, .inl (0 : Int32)), (0, .inr (.inr (some 29))), (1, .inr (.inr (some 1))), (2, .inl a2)]) rfl ?_
  refine zg_sub [1, 2, 3, 0] rfl ?_
  refine lt_fc_Doubts_countIn_L12  _ _ _ _ h
/-! TurnedLand$Ground.joinOf[2, None, None] -/
def fc_Ground_joinOf (I : zI) (a1 : Int32) (a2 : Int32) : Option Int32 :=
  (fc_Ground_hasEdge I (((4 : Int32) * (a1 / (2 : Int32))) + a2)).bind fun r1 =>
  if r1 = 0 then
    some (-1 : Int32)
  else
    z_guard (zb (((4 : Int32) * (a1 / (2 : Int32))) + a2) 32) <|
    some (I 6 (((4 : Int32) * (a1 / (2 : Int32))) + a2).toNatClampNeg)
set_option maxRecDepth 20000 in
theorem mt_fc_Ground_joinOf {I : zI} {a1 : Int32} {a2 : Int32} {res : Int32} (h : fc_Ground_joinOf I a1 a2 = some res) : zM 2 ym_106 [.inr (.inr (some 2)), .inl a1, .inl a2] (zCs, zCr, I) (some (.inl res)) (zCs, zCr, I) 0 0 := by
  refine zM_of (by decide) (Nat.le_of_ble_eq_true rfl) (lv := [(0, .inr (.inr (some 2))), (1, .inl a1), (2, .inl a2)]) rfl ?_
  rw [fc_Ground_joinOf] at h
  refine zg_iconst dd_106_0 kI_4 ?_
  refine zg_iload_n dd_106_1 rfl (j := 1) rfl ?_
  refine zg_iconst dd_106_2 kI_2 ?_
  refine zg_idiv dd_106_3 (by decide) ?_
  refine zg_imul dd_106_4 ?_
  refine zg_iload_n dd_106_5 rfl (j := 2) rfl ?_
  refine zg_iadd dd_106_6 ?_
  refine zg_istore_n dd_106_7 rfl (Nat.le_of_ble_eq_true rfl) (lv' := [(3, .inl (((4 : Int32) * (a1 / (2 : Int32))) + a2)), (0, .inr (.inr (some 2))), (1, .inl a1), (2, .inl a2)]) rfl ?_
  refine zg_aload_n dd_106_8 rfl (j := 1) rfl ?_
  refine zg_iload_n dd_106_9 rfl (j := 0) rfl ?_
  obtain ⟨r1, e2, h⟩ := z_bd h
  refine zg_invV_i (av := [.inl (((4 : Int32) * (a1 / (2 : Int32))) + a2)]) (st := []) (n := 1) dd_106_10 ca_7 zw_452 zw_453 zw_454 zCs_2 zcl_2 rfl (mt_fc_Ground_hasEdge e2) rfl ⟨by decide +kernel, by decide⟩ (Nat.le_of_ble_eq_true rfl) ?_
  refine zg_if_eq (tgt := 25) dd_106_13 (by decide) (fun q3 => ?_) (fun q3 => ?_)
  · replace h := z_t h q3
    refine zg_iconst dd_106_25 kI_m1 ?_
    obtain rfl := Option.some.inj h
    exact zg_iret dd_106_26 rfl
  · replace h := z_f h q3
    refine zg_aload_n dd_106_16 rfl (j := 1) rfl ?_
    refine zg_getR dd_106_17 zl_Ground_28 zCs_2 rfl zCr_2_5 ?_
    refine zg_iload_n dd_106_20 rfl (j := 0) rfl ?_
    obtain ⟨g4, h⟩ := z_gd h
    refine zg_iald (w := (I 6 (((4 : Int32) * (a1 / (2 : Int32))) + a2).toNatClampNeg)) dd_106_21 zCs_6 g4 rfl ?_
    refine zg_goto (tgt := 26) dd_106_22 (by decide) ?_
    obtain rfl := Option.some.inj h
    exact zg_iret dd_106_26 rfl
/-! TurnedLand$Walker.oddJoins[178, 1, None] -/
def fc_Walker_oddJoins_L5 (I : zI) : Nat → Int32 → Int32 → Int32 → Option Int32
  | 0, _, _, _ => none
  | nf + 1, v2, v3, v4 =>
    if (I 178 1) ≤ v4 then
      some v3
    else
      z_guard (zb v4 9) <|
      z_guard (zb v2 10) <|
      z_guard (zb v4 8) <|
      (fc_Ground_joinOf I (I 179 v4.toNatClampNeg) (I (13 + v2.toNatClampNeg) v4.toNatClampNeg)).bind fun r5 =>
      fc_Walker_oddJoins_L5 I nf v2 (v3 ^^^ ((1 : Int32) <<< (r5 &&& 31))) (v4 + (1 : Int32))
def fc_Walker_oddJoins (I : zI) (a2 : Int32) : Option Int32 :=
  fc_Walker_oddJoins_L5 I
    100 a2 (0 : Int32) (0 : Int32)
set_option maxRecDepth 20000 in
theorem lt_fc_Walker_oddJoins_L5 {res : Int32} {I : zI} : ∀ (nf : Nat) (v2 : Int32) (v3 : Int32) (v4 : Int32), fc_Walker_oddJoins_L5 I nf v2 v3 v4 = some res → zG 3 ym_105 0 0 (some (.inl res)) (zCs, zCr, I) zCs.length 5 [(0, .inr (.inr (some 178))), (1, .inr (.inr (some 1))), (2, .inl v2), (3, .inl v3), (4, .inl v4)] [] (zCs, zCr, I) 0 0 := by
  intro nf
  induction nf with
  | zero =>
    intro v2 v3 v4 h
    have h2 : none = some res := h
    cases h2
  | succ nf ih =>
    intro v2 v3 v4 h
    rw [fc_Walker_oddJoins_L5] at h
    refine zg_iload dd_105_5 (j := 4) rfl ?_
    refine zg_aload_n dd_105_7 rfl (j := 0) rfl ?_
    refine zg_getI (x := (I 178 1)) dd_105_8 zl_Walker_15 zCs_178 rfl rfl ?_
    refine zg_icmp_ge (tgt := 51) dd_105_11 (by decide) (fun q1 => ?_) (fun q1 => ?_)
    · replace h := z_t h q1
      refine zg_iload_n dd_105_51 rfl (j := 3) rfl ?_
      obtain rfl := Option.some.inj h
      exact zg_iret dd_105_52 rfl
    · replace h := z_f h q1
      refine zg_iload_n dd_105_14 rfl (j := 3) rfl ?_
      refine zg_iconst dd_105_15 kI_1 ?_
      refine zg_aload_n dd_105_16 rfl (j := 1) rfl ?_
      refine zg_getR dd_105_17 zl_Walker_37 zCs_1 rfl zCr_1_0 ?_
      refine zg_aload_n dd_105_20 rfl (j := 0) rfl ?_
      refine zg_getR dd_105_21 zl_Walker_9 zCs_178 rfl zCr_178_0 ?_
      refine zg_iload dd_105_24 (j := 4) rfl ?_
      obtain ⟨g2, h⟩ := z_gd h
      refine zg_iald (w := (I 179 v4.toNatClampNeg)) dd_105_26 zCs_179 g2 rfl ?_
      refine zg_aload_n dd_105_27 rfl (j := 1) rfl ?_
      refine zg_getR dd_105_28 zl_Walker_19 zCs_1 rfl zCr_1_1 ?_
      refine zg_getR dd_105_31 zl_Walker_41 zCs_7 rfl zCr_7_5 ?_
      refine zg_iload_n dd_105_34 rfl (j := 2) rfl ?_
      obtain ⟨g3, h⟩ := z_gd h
      refine zg_aald1 dd_105_35 zCs_12 g3 (zrR_C_12 g3) ?_
      refine zg_iload dd_105_36 (j := 4) rfl ?_
      obtain ⟨g4, h⟩ := z_gd h
      refine zg_iald (w := (I (13 + v2.toNatClampNeg) v4.toNatClampNeg)) dd_105_38 (zrS_C_12 g3) g4 rfl ?_
      obtain ⟨r5, e6, h⟩ := z_bd h
      refine zg_invV_i (av := [.inl (I 179 v4.toNatClampNeg), .inl (I (13 + v2.toNatClampNeg) v4.toNatClampNeg)]) (st := [.inl (1 : Int32), .inl v3]) (n := 2) dd_105_39 ca_106 zw_861 zw_862 zw_863 zCs_2 zcl_2 rfl (mt_fc_Ground_joinOf e6) rfl ⟨by decide +kernel, by decide⟩ (Nat.le_of_ble_eq_true rfl) ?_
      refine zg_ishl dd_105_42 ?_
      refine zg_ixor dd_105_43 ?_
      refine zg_istore_n dd_105_44 rfl (Nat.le_of_ble_eq_true rfl) (lv' := [(3, .inl (v3 ^^^ ((1 : Int32) <<< (r5 &&& 31)))), (0, .inr (.inr (some 178))), (1, .inr (.inr (some 1))), (2, .inl v2), (4, .inl v4)]) rfl ?_
      refine zg_iinc dd_105_45 (j := 4) rfl (v := (v4 + (1 : Int32))) (by rw [kI_1]) (Nat.le_of_ble_eq_true rfl) (lv' := [(4, .inl (v4 + (1 : Int32))), (3, .inl (v3 ^^^ ((1 : Int32) <<< (r5 &&& 31)))), (0, .inr (.inr (some 178))), (1, .inr (.inr (some 1))), (2, .inl v2)]) rfl ?_
      refine zg_goto (tgt := 5) dd_105_48 (by decide) ?_
      refine zg_sub [2, 3, 4, 1, 0] rfl ?_
      exact ih _ _ _ h
set_option maxRecDepth 20000 in
theorem mt_fc_Walker_oddJoins {I : zI} {a2 : Int32} {res : Int32} (h : fc_Walker_oddJoins I a2 = some res) : zM 3 ym_105 [.inr (.inr (some 178)), .inr (.inr (some 1)), .inl a2] (zCs, zCr, I) (some (.inl res)) (zCs, zCr, I) 0 0 := by
  refine zM_of (by decide) (Nat.le_of_ble_eq_true rfl) (lv := [(0, .inr (.inr (some 178))), (1, .inr (.inr (some 1))), (2, .inl a2)]) rfl ?_
  rw [fc_Walker_oddJoins] at h
  refine zg_iconst dd_105_0 kI_0 ?_
  refine zg_istore_n dd_105_1 rfl (Nat.le_of_ble_eq_true rfl) (lv' := [(3, .inl (0 : Int32)), (0, .inr (.inr (some 178))), (1, .inr (.inr (some 1))), (2, .inl a2)]) rfl ?_
  refine zg_iconst dd_105_2 kI_0 ?_
  refine zg_istore dd_105_3 (Nat.le_of_ble_eq_true rfl) (lv' := [(4, .inl (0 : Int32)), (3, .inl (0 : Int32)), (0, .inr (.inr (some 178))), (1, .inr (.inr (some 1))), (2, .inl a2)]) rfl ?_
  refine zg_sub [2, 3, 4, 1, 0] rfl ?_
  refine lt_fc_Walker_oddJoins_L5  _ _ _ _ h
/-! TurnedLand$Doubts.weigh[29, 1, 178] -/
def fc_Doubts_weigh_L98 : Nat → Int32 → Int32 → Int32 → zI → Option zI
  | 0, _, _, _, _ => none
  | nf + 1, v3, v4, v5, I =>
    if v5 ≤ 0 then
      some I
    else
      (fc_Doubts_areSo I (v3 ||| v4)).bind fun r7 =>
      if r7 = 0 then
        fc_Doubts_weigh_L98 nf v3 ((v4 - (1 : Int32)) &&& (I 29 0)) (v5 + (-1 : Int32)) I
      else
        (fc_Doubts_countIn I (v3 ||| v4)).bind fun r10 =>
        fc_Doubts_weigh_L98 nf v3 ((v4 - (1 : Int32)) &&& (r10 29 0)) (v5 + (-1 : Int32)) r10
def fc_Doubts_weigh_L2 : Nat → Int32 → zI → Option zI
  | 0, _, _ => none
  | nf + 1, v3, I =>
    if (I 7 0) ≤ v3 then
      (fc_Ground_turnedSet (zfill (zfill (zup I 29 4 (0 : Int32)) 32 16 (0 : Int32)) 33 10 (0 : Int32))).bind fun r2 =>
      (fc_JInteger_bitCount (zfill (zfill (zup I 29 4 (0 : Int32)) 32 16 (0 : Int32)) 33 10 (0 : Int32)) ((zfill (zfill (zup I 29 4 (0 : Int32)) 32 16 (0 : Int32)) 33 10 (0 : Int32)) 29 0)).bind fun r4 =>
      fc_Doubts_weigh_L98
        100 (r2 &&& (((zfill (zfill (zup I 29 4 (0 : Int32)) 32 16 (0 : Int32)) 33 10 (0 : Int32)) 29 0) ^^^ (-1 : Int32))) ((zfill (zfill (zup I 29 4 (0 : Int32)) 32 16 (0 : Int32)) 33 10 (0 : Int32)) 29 0) ((1 : Int32) <<< (r4 &&& 31)) (zfill (zfill (zup I 29 4 (0 : Int32)) 32 16 (0 : Int32)) 33 10 (0 : Int32))
    else
      (fc_Walker_goes I v3 (0 : Int32)).bind fun r12 =>
      if r12.1 = 0 then
        z_guard (zb v3 10) <|
        fc_Doubts_weigh_L2 nf (v3 + (1 : Int32)) (zup r12.2 34 v3.toNatClampNeg (-1 : Int32))
      else
        (fc_Walker_oddJoins r12.2 v3).bind fun r16 =>
        z_guard (zb v3 10) <|
        fc_Doubts_weigh_L2 nf (v3 + (1 : Int32)) (zup r12.2 34 v3.toNatClampNeg r16)
def fc_Doubts_weigh (I : zI) : Option zI :=
  fc_Doubts_weigh_L2
    100 (0 : Int32) I
set_option maxRecDepth 20000 in
theorem lt_fc_Doubts_weigh_L98 {res : zI} : ∀ (nf : Nat) (v3 : Int32) (v4 : Int32) (v5 : Int32) (I : zI), fc_Doubts_weigh_L98 nf v3 v4 v5 I = some res → zG 5 ym_100 0 0 none (zCs, zCr, res) zCs.length 98 [(0, .inr (.inr (some 29))), (1, .inr (.inr (some 1))), (3, .inl v3), (4, .inl v4), (5, .inl v5)] [] (zCs, zCr, I) 0 0 := by
  intro nf
  induction nf with
  | zero =>
    intro v3 v4 v5 I h
    have h2 : none = some res := h
    cases h2
  | succ nf ih =>
    intro v3 v4 v5 I h
    rw [fc_Doubts_weigh_L98] at h
    refine zg_iload dd_100_98 (j := 4) rfl ?_
    refine zg_if_le (tgt := 140) dd_100_100 (by decide) (fun q6 => ?_) (fun q6 => ?_)
    · replace h := z_t h q6
      obtain rfl := Option.some.inj h
      exact zg_vret dd_100_140 rfl
    · replace h := z_f h q6
      refine zg_aload_n dd_100_103 rfl (j := 0) rfl ?_
      refine zg_iload_n dd_100_104 rfl (j := 2) rfl ?_
      refine zg_iload dd_100_105 (j := 3) rfl ?_
      refine zg_ior dd_100_107 ?_
      obtain ⟨r7, e8, h⟩ := z_bd h
      refine zg_invV_i (av := [.inl (v3 ||| v4)]) (st := []) (n := 1) dd_100_108 ca_102 zw_871 zw_873 zv_22 zCs_29 zcl_0 rfl (mt_fc_Doubts_areSo e8) rfl ⟨by decide +kernel, by decide⟩ (Nat.le_of_ble_eq_true rfl) ?_
      refine zg_if_eq (tgt := 123) dd_100_111 (by decide) (fun q9 => ?_) (fun q9 => ?_)
      · replace h := z_t h q9
        refine zg_iload dd_100_123 (j := 3) rfl ?_
        refine zg_iconst dd_100_125 kI_1 ?_
        refine zg_isub dd_100_126 ?_
        refine zg_aload_n dd_100_127 rfl (j := 0) rfl ?_
        refine zg_getI (x := (I 29 0)) dd_100_128 zl_Doubts_9 zCs_29 rfl rfl ?_
        refine zg_iand dd_100_131 ?_
        refine zg_istore dd_100_132 (Nat.le_of_ble_eq_true rfl) (lv' := [(4, .inl ((v4 - (1 : Int32)) &&& (I 29 0))), (0, .inr (.inr (some 29))), (1, .inr (.inr (some 1))), (3, .inl v3), (5, .inl v5)]) rfl ?_
        refine zg_iinc dd_100_134 (j := 4) rfl (v := (v5 + (-1 : Int32))) (by rw [kI_m1]) (Nat.le_of_ble_eq_true rfl) (lv' := [(5, .inl (v5 + (-1 : Int32))), (4, .inl ((v4 - (1 : Int32)) &&& (I 29 0))), (0, .inr (.inr (some 29))), (1, .inr (.inr (some 1))), (3, .inl v3)]) rfl ?_
        refine zg_goto (tgt := 98) dd_100_137 (by decide) ?_
        refine zg_sub [2, 3, 4, 1, 0] rfl ?_
        exact ih _ _ _ _ h
      · replace h := z_f h q9
        refine zg_aload_n dd_100_114 rfl (j := 0) rfl ?_
        refine zg_aload_n dd_100_115 rfl (j := 1) rfl ?_
        refine zg_iload_n dd_100_116 rfl (j := 2) rfl ?_
        refine zg_iload dd_100_117 (j := 3) rfl ?_
        refine zg_ior dd_100_119 ?_
        obtain ⟨r10, e11, h⟩ := z_bd h
        refine zg_invV_v (av := [.inr (.inr (some 1)), .inl (v3 ||| v4)]) (st := []) (n := 2) dd_100_120 ca_104 zw_878 zw_880 zv_23 zCs_29 zcl_0 rfl (mt_fc_Doubts_countIn e11) rfl ⟨by decide +kernel, by decide⟩ (Nat.le_of_ble_eq_true rfl) ?_
        refine zg_iload dd_100_123 (j := 3) rfl ?_
        refine zg_iconst dd_100_125 kI_1 ?_
        refine zg_isub dd_100_126 ?_
        refine zg_aload_n dd_100_127 rfl (j := 0) rfl ?_
        refine zg_getI (x := (r10 29 0)) dd_100_128 zl_Doubts_9 zCs_29 rfl rfl ?_
        refine zg_iand dd_100_131 ?_
        refine zg_istore dd_100_132 (Nat.le_of_ble_eq_true rfl) (lv' := [(4, .inl ((v4 - (1 : Int32)) &&& (r10 29 0))), (0, .inr (.inr (some 29))), (1, .inr (.inr (some 1))), (3, .inl v3), (5, .inl v5)]) rfl ?_
        refine zg_iinc dd_100_134 (j := 4) rfl (v := (v5 + (-1 : Int32))) (by rw [kI_m1]) (Nat.le_of_ble_eq_true rfl) (lv' := [(5, .inl (v5 + (-1 : Int32))), (4, .inl ((v4 - (1 : Int32)) &&& (r10 29 0))), (0, .inr (.inr (some 29))), (1, .inr (.inr (some 1))), (3, .inl v3)]) rfl ?_
        refine zg_goto (tgt := 98) dd_100_137 (by decide) ?_
        refine zg_sub [2, 3, 4, 1, 0] rfl ?_
        exact ih _ _ _ _ h
set_option maxRecDepth 20000 in
theorem lt_fc_Doubts_weigh_L2 {res : zI} : ∀ (nf : Nat) (v3 : Int32) (I : zI), fc_Doubts_weigh_L2 nf v3 I = some res → zG 5 ym_100 0 0 none (zCs, zCr, res) zCs.length 2 [(0, .inr (.inr (some 29))), (1, .inr (.inr (some 1))), (2, .inr (.inr (some 178))), (3, .inl v3)] [] (zCs, zCr, I) 0 0 := by
  intro nf
  induction nf with
  | zero =>
    intro v3 I h
    have h2 : none = some res := h
    cases h2
  | succ nf ih =>
    intro v3 I h
    rw [fc_Doubts_weigh_L2] at h
    refine zg_iload_n dd_100_2 rfl (j := 3) rfl ?_
    refine zg_aload_n dd_100_3 rfl (j := 1) rfl ?_
    refine zg_getR dd_100_4 zl_Doubts_43 zCs_1 rfl zCr_1_1 ?_
    refine zg_getI (x := (I 7 0)) dd_100_7 zl_Doubts_49 zCs_7 rfl rfl ?_
    refine zg_icmp_ge (tgt := 45) dd_100_10 (by decide) (fun q1 => ?_) (fun q1 => ?_)
    · replace h := z_t h q1
      refine zg_aload_n dd_100_45 rfl (j := 0) rfl ?_
      refine zg_iconst dd_100_46 kI_0 ?_
      refine zg_putI dd_100_47 zp_Doubts_25 zCs_29 rfl (zSt_int _) ?_
      refine zg_aload_n dd_100_50 rfl (j := 0) rfl ?_
      refine zg_getR dd_100_51 zl_Doubts_28 zCs_29 rfl zCr_29_5 ?_
      refine zg_iconst dd_100_54 kI_0 ?_
      refine zg_invS_v (av := [.inr (.inr (some 32)), .inl (0 : Int32)]) (st := []) (n := 2) dd_100_55 ca_28 zw_865 zw_43 (mt_fill zCs_32 (Nat.le_of_ble_eq_true rfl)) rfl ⟨by decide +kernel, by decide⟩ (Nat.le_of_ble_eq_true rfl) ?_
      refine zg_aload_n dd_100_58 rfl (j := 0) rfl ?_
      refine zg_getR dd_100_59 zl_Doubts_31 zCs_29 rfl zCr_29_6 ?_
      refine zg_iconst dd_100_62 kI_0 ?_
      refine zg_invS_v (av := [.inr (.inr (some 33)), .inl (0 : Int32)]) (st := []) (n := 2) dd_100_63 ca_28 zw_865 zw_43 (mt_fill zCs_33 (Nat.le_of_ble_eq_true rfl)) rfl ⟨by decide +kernel, by decide⟩ (Nat.le_of_ble_eq_true rfl) ?_
      refine zg_aload_n dd_100_66 rfl (j := 1) rfl ?_
      refine zg_getR dd_100_67 zl_Doubts_69 zCs_1 rfl zCr_1_0 ?_
      obtain ⟨r2, e3, h⟩ := z_bd h
      refine zg_invV_i (av := []) (st := []) (n := 0) dd_100_70 ca_101 zw_866 zw_867 zw_868 zCs_2 zcl_2 rfl (mt_fc_Ground_turnedSet e3) rfl ⟨by decide +kernel, by decide⟩ (Nat.le_of_ble_eq_true rfl) ?_
      refine zg_aload_n dd_100_73 rfl (j := 0) rfl ?_
      refine zg_getI (x := ((zfill (zfill (zup I 29 4 (0 : Int32)) 32 16 (0 : Int32)) 33 10 (0 : Int32)) 29 0)) dd_100_74 zl_Doubts_9 zCs_29 rfl rfl ?_
      refine zg_iconst dd_100_77 kI_m1 ?_
      refine zg_ixor dd_100_78 ?_
      refine zg_iand dd_100_79 ?_
      refine zg_istore_n dd_100_80 rfl (Nat.le_of_ble_eq_true rfl) (lv' := [(3, .inl (r2 &&& (((zfill (zfill (zup I 29 4 (0 : Int32)) 32 16 (0 : Int32)) 33 10 (0 : Int32)) 29 0) ^^^ (-1 : Int32)))), (0, .inr (.inr (some 29))), (1, .inr (.inr (some 1))), (2, .inr (.inr (some 178)))]) rfl ?_
      refine zg_aload_n dd_100_81 rfl (j := 1) rfl ?_
      refine zg_getI (x := ((zfill (zfill (zup I 29 4 (0 : Int32)) 32 16 (0 : Int32)) 33 10 (0 : Int32)) 29 0)) dd_100_82 zl_Doubts_9 zCs_29 rfl rfl ?_
      refine zg_istore dd_100_85 (Nat.le_of_ble_eq_true rfl) (lv' := [(4, .inl ((zfill (zfill (zup I 29 4 (0 : Int32)) 32 16 (0 : Int32)) 33 10 (0 : Int32)) 29 0)), (3, .inl (r2 &&& (((zfill (zfill (zup I 29 4 (0 : Int32)) 32 16 (0 : Int32)) 33 10 (0 : Int32)) 29 0) ^^^ (-1 : Int32)))), (0, .inr (.inr (some 29))), (1, .inr (.inr (some 1))), (2, .inr (.inr (some 178)))]) rfl ?_
      refine zg_iconst dd_100_87 kI_1 ?_
      refine zg_aload_n dd_100_88 rfl (j := 2) rfl ?_
      refine zg_getI (x := ((zfill (zfill (zup I 29 4 (0 : Int32)) 32 16 (0 : Int32)) 33 10 (0 : Int32)) 29 0)) dd_100_89 zl_Doubts_9 zCs_29 rfl rfl ?_
      obtain ⟨r4, e5, h⟩ := z_bd h
      refine zg_invS_i (av := [.inl ((zfill (zfill (zup I 29 4 (0 : Int32)) 32 16 (0 : Int32)) 33 10 (0 : Int32)) 29 0)]) (st := [.inl (1 : Int32)]) (n := 1) dd_100_92 ca_26 zw_870 zw_528 (mt_fc_JInteger_bitCount e5) rfl ⟨by decide +kernel, by decide⟩ (Nat.le_of_ble_eq_true rfl) ?_
      refine zg_ishl dd_100_95 ?_
      refine zg_istore dd_100_96 (Nat.le_of_ble_eq_true rfl) (lv' := [(5, .inl ((1 : Int32) <<< (r4 &&& 31))), (4, .inl ((zfill (zfill (zup I 29 4 (0 : Int32)) 32 16 (0 : Int32)) 33 10 (0 : Int32)) 29 0)), (3, .inl (r2 &&& (((zfill (zfill (zup I 29 4 (0 : Int32)) 32 16 (0 : Int32)) 33 10 (0 : Int32)) 29 0) ^^^ (-1 : Int32)))), (0, .inr (.inr (some 29))), (1, .inr (.inr (some 1))), (2, .inr (.inr (some 178)))]) rfl ?_
      refine zg_sub [3, 4, 2, 1, 0] rfl ?_
      refine lt_fc_Doubts_weigh_L98  _ _ _ _ _ h
    · replace h := z_f h q1
      refine zg_aload_n dd_100_13 rfl (j := 0) rfl ?_
      refine zg_getR dd_100_14 zl_Doubts_34 zCs_29 rfl zCr_29_7 ?_
      refine zg_iload_n dd_100_17 rfl (j := 3) rfl ?_
      refine zg_aload_n dd_100_18 rfl (j := 2) rfl ?_
      refine zg_aload_n dd_100_19 rfl (j := 1) rfl ?_
      refine zg_iload_n dd_100_20 rfl (j := 3) rfl ?_
      refine zg_iconst dd_100_21 kI_0 ?_
      obtain ⟨r12, e13, h⟩ := z_bd h
      refine zg_invV_i (av := [.inr (.inr (some 1)), .inl v3, .inl (0 : Int32)]) (st := [.inl v3, .inr (.inr (some 34))]) (n := 3) dd_100_22 ca_70 zw_856 zw_720 zw_721 zCs_178 zcl_7 rfl (mt_fc_Walker_goes e13) rfl ⟨by decide +kernel, by decide⟩ (Nat.le_of_ble_eq_true rfl) ?_
      refine zg_if_eq (tgt := 37) dd_100_25 (by decide) (fun q14 => ?_) (fun q14 => ?_)
      · replace h := z_t h q14
        refine zg_iconst dd_100_37 kI_m1 ?_
        obtain ⟨g15, h⟩ := z_gd h
        refine zg_iast dd_100_38 zCs_34 g15 ?_
        refine zg_iinc dd_100_39 (j := 3) rfl (v := (v3 + (1 : Int32))) (by rw [kI_1]) (Nat.le_of_ble_eq_true rfl) (lv' := [(3, .inl (v3 + (1 : Int32))), (0, .inr (.inr (some 29))), (1, .inr (.inr (some 1))), (2, .inr (.inr (some 178)))]) rfl ?_
        refine zg_goto (tgt := 2) dd_100_42 (by decide) ?_
        refine zg_sub [1, 2, 3, 0] rfl ?_
        exact ih _ _ h
      · replace h := z_f h q14
        refine zg_aload_n dd_100_28 rfl (j := 2) rfl ?_
        refine zg_aload_n dd_100_29 rfl (j := 1) rfl ?_
        refine zg_iload_n dd_100_30 rfl (j := 3) rfl ?_
        obtain ⟨r16, e17, h⟩ := z_bd h
        refine zg_invV_i (av := [.inr (.inr (some 1)), .inl v3]) (st := [.inl v3, .inr (.inr (some 34))]) (n := 2) dd_100_31 ca_105 zw_857 zw_858 zw_859 zCs_178 zcl_7 rfl (mt_fc_Walker_oddJoins e17) rfl ⟨by decide +kernel, by decide⟩ (Nat.le_of_ble_eq_true rfl) ?_
        refine zg_goto (tgt := 38) dd_100_34 (by decide) ?_
        obtain ⟨g18, h⟩ := z_gd h
        refine zg_iast dd_100_38 zCs_34 g18 ?_
        refine zg_iinc dd_100_39 (j := 3) rfl (v := (v3 + (1 : Int32))) (by rw [kI_1]) (Nat.le_of_ble_eq_true rfl) (lv' := [(3, .inl (v3 + (1 : Int32))), (0, .inr (.inr (some 29))), (1, .inr (.inr (some 1))), (2, .inr (.inr (some 178)))]) rfl ?_
        refine zg_goto (tgt := 2) dd_100_42 (by decide) ?_
        refine zg_sub [1, 2, 3, 0] rfl ?_
        exact ih _ _ h
set_option maxRecDepth 20000 in
theorem mt_fc_Doubts_weigh {I : zI} {res : zI} (h : fc_Doubts_weigh I = some res) : zM 5 ym_100 [.inr (.inr (some 29)), .inr (.inr (some 1)), .inr (.inr (some 178))] (zCs, zCr, I) none (zCs, zCr, res) 0 0 := by
  refine zM_of (by decide) (Nat.le_of_ble_eq_true rfl) (lv := [(0, .inr (.inr (some 29))), (1, .inr (.inr (some 1))), (2, .inr (.inr (some 178)))]) rfl ?_
  rw [fc_Doubts_weigh] at h
  refine zg_iconst dd_100_0 kI_0 ?_
  refine zg_istore_n dd_100_1 rfl (Nat.le_of_ble_eq_true rfl) (lv' := [(3, .inl (0 : Int32)), (0, .inr (.inr (some 29))), (1, .inr (.inr (some 1))), (2, .inr (.inr (some 178)))]) rfl ?_
  refine zg_sub [1, 2, 3, 0] rfl ?_
  refine lt_fc_Doubts_weigh_L2  _ _ _ h
/-! TurnedLand.agree(0,) -/
def fc_T_agree (I : zI) : Option (Int32 × zI) :=
  (fc_Doubts_weigh I).bind fun r1 =>
  some ((r1 29 4), r1)
set_option maxRecDepth 20000 in
theorem mt_fc_T_agree {I : zI} {res : (Int32 × zI)} (h : fc_T_agree I = some res) : zM 6 ym_99 [.inr (.inr (some 0))] (zCs, zCr, I) (some (.inl res.1)) (zCs, zCr, res.2) 0 0 := by
  refine zM_of (by decide) (Nat.le_of_ble_eq_true rfl) (lv := [(0, .inr (.inr (some 0)))]) rfl ?_
  rw [fc_T_agree] at h
  refine zg_aload_n dd_99_0 rfl (j := 0) rfl ?_
  refine zg_getR dd_99_1 zl_T_12 zCs_0 rfl zCr_0_0 ?_
  refine zg_getR dd_99_4 zl_T_122 zCs_1 rfl zCr_1_3 ?_
  refine zg_aload_n dd_99_7 rfl (j := 0) rfl ?_
  refine zg_getR dd_99_8 zl_T_12 zCs_0 rfl zCr_0_0 ?_
  refine zg_aload_n dd_99_11 rfl (j := 0) rfl ?_
  refine zg_getR dd_99_12 zl_T_58 zCs_0 rfl zCr_0_10 ?_
  obtain ⟨r1, e2, h⟩ := z_bd h
  refine zg_invV_v (av := [.inr (.inr (some 1)), .inr (.inr (some 178))]) (st := []) (n := 2) dd_99_15 ca_100 zw_852 zw_853 zw_854 zCs_29 zcl_0 rfl (mt_fc_Doubts_weigh e2) rfl ⟨by decide +kernel, by decide⟩ (Nat.le_of_ble_eq_true rfl) ?_
  refine zg_aload_n dd_99_18 rfl (j := 0) rfl ?_
  refine zg_getR dd_99_19 zl_T_12 zCs_0 rfl zCr_0_0 ?_
  refine zg_getR dd_99_22 zl_T_122 zCs_1 rfl zCr_1_3 ?_
  refine zg_getI (x := (r1 29 4)) dd_99_25 zl_T_324 zCs_29 rfl rfl ?_
  obtain rfl := Option.some.inj h
  exact zg_iret dd_99_28 rfl
/-! TurnedLand.known(0, None) -/
def fc_T_known (I : zI) (a1 : Int32) : Option (Int32 × zI) :=
  (fc_Ground_hasJoin I a1).bind fun r1 =>
  if r1 = 0 then
    (fc_T_refuse I (1 : Int32)).bind fun r14 =>
    some (r14.1, r14.2)
  else
    if (((I 29 0) >>> (a1 &&& 31)) &&& (1 : Int32)) = 0 then
      z_guard (zb a1 16) <|
      some ((I 5 a1.toNatClampNeg), I)
    else
      (fc_Doubts_weigh I).bind fun r5 =>
      if (r5 29 4) = 0 then
        (fc_T_refuse r5 (2 : Int32)).bind fun r11 =>
        some (r11.1, r11.2)
      else
        z_guard (zb a1 16) <|
        if (r5 32 a1.toNatClampNeg) = 0 then
          some ((0 : Int32), r5)
        else
          if (r5 32 a1.toNatClampNeg) = (r5 29 4) then
            some ((1 : Int32), r5)
          else
            some ((2 : Int32), r5)
set_option maxRecDepth 20000 in
theorem mt_fc_T_known {I : zI} {a1 : Int32} {res : (Int32 × zI)} (h : fc_T_known I a1 = some res) : zM 6 ym_107 [.inr (.inr (some 0)), .inl a1] (zCs, zCr, I) (some (.inl res.1)) (zCs, zCr, res.2) 0 0 := by
  refine zM_of (by decide) (Nat.le_of_ble_eq_true rfl) (lv := [(0, .inr (.inr (some 0))), (1, .inl a1)]) rfl ?_
  rw [fc_T_known] at h
  refine zg_aload_n dd_107_0 rfl (j := 0) rfl ?_
  refine zg_getR dd_107_1 zl_T_12 zCs_0 rfl zCr_0_0 ?_
  refine zg_getR dd_107_4 zl_T_122 zCs_1 rfl zCr_1_3 ?_
  refine zg_astore_n dd_107_7 rfl (Nat.le_of_ble_eq_true rfl) (lv' := [(2, .inr (.inr (some 29))), (0, .inr (.inr (some 0))), (1, .inl a1)]) rfl ?_
  refine zg_aload_n dd_107_8 rfl (j := 1) rfl ?_
  refine zg_getR dd_107_9 zl_T_12 zCs_0 rfl zCr_0_0 ?_
  refine zg_getR dd_107_12 zl_T_76 zCs_1 rfl zCr_1_0 ?_
  refine zg_iload_n dd_107_15 rfl (j := 2) rfl ?_
  obtain ⟨r1, e2, h⟩ := z_bd h
  refine zg_invV_i (av := [.inl a1]) (st := []) (n := 1) dd_107_16 ca_10 zw_464 zw_465 zw_466 zCs_2 zcl_2 rfl (mt_fc_Ground_hasJoin e2) rfl ⟨by decide +kernel, by decide⟩ (Nat.le_of_ble_eq_true rfl) ?_
  refine zg_if_ne (tgt := 28) dd_107_19 (by decide) (fun q3 => ?_) (fun q3 => ?_)
  · replace h := z_f h q3
    refine zg_aload_n dd_107_28 rfl (j := 0) rfl ?_
    refine zg_getI (x := (I 29 0)) dd_107_29 zl_T_126 zCs_29 rfl rfl ?_
    refine zg_iload_n dd_107_32 rfl (j := 2) rfl ?_
    refine zg_ishr dd_107_33 ?_
    refine zg_iconst dd_107_34 kI_1 ?_
    refine zg_iand dd_107_35 ?_
    refine zg_if_ne (tgt := 52) dd_107_36 (by decide) (fun q4 => ?_) (fun q4 => ?_)
    · replace h := z_f h q4
      refine zg_aload_n dd_107_52 rfl (j := 0) rfl ?_
      refine zg_aload_n dd_107_53 rfl (j := 1) rfl ?_
      refine zg_getR dd_107_54 zl_T_12 zCs_0 rfl zCr_0_0 ?_
      refine zg_aload_n dd_107_57 rfl (j := 1) rfl ?_
      refine zg_getR dd_107_58 zl_T_58 zCs_0 rfl zCr_0_10 ?_
      obtain ⟨r5, e6, h⟩ := z_bd h
      refine zg_invV_v (av := [.inr (.inr (some 1)), .inr (.inr (some 178))]) (st := []) (n := 2) dd_107_61 ca_100 zw_852 zw_853 zw_854 zCs_29 zcl_0 rfl (mt_fc_Doubts_weigh e6) rfl ⟨by decide +kernel, by decide⟩ (Nat.le_of_ble_eq_true rfl) ?_
      refine zg_aload_n dd_107_64 rfl (j := 0) rfl ?_
      refine zg_getI (x := (r5 29 4)) dd_107_65 zl_T_324 zCs_29 rfl rfl ?_
      refine zg_if_ne (tgt := 77) dd_107_68 (by decide) (fun q7 => ?_) (fun q7 => ?_)
      · replace h := z_f h q7
        refine zg_aload_n dd_107_77 rfl (j := 0) rfl ?_
        refine zg_getR dd_107_78 zl_T_327 zCs_29 rfl zCr_29_5 ?_
        refine zg_iload_n dd_107_81 rfl (j := 2) rfl ?_
        obtain ⟨g8, h⟩ := z_gd h
        refine zg_iald (w := (r5 32 a1.toNatClampNeg)) dd_107_82 zCs_32 g8 rfl ?_
        refine zg_if_ne (tgt := 88) dd_107_83 (by decide) (fun q9 => ?_) (fun q9 => ?_)
        · replace h := z_f h q9
          refine zg_aload_n dd_107_88 rfl (j := 0) rfl ?_
          refine zg_getR dd_107_89 zl_T_327 zCs_29 rfl zCr_29_5 ?_
          refine zg_iload_n dd_107_92 rfl (j := 2) rfl ?_
          refine zg_iald (w := (r5 32 a1.toNatClampNeg)) dd_107_93 zCs_32 g8 rfl ?_
          refine zg_aload_n dd_107_94 rfl (j := 0) rfl ?_
          refine zg_getI (x := (r5 29 4)) dd_107_95 zl_T_324 zCs_29 rfl rfl ?_
          refine zg_icmp_ne (tgt := 105) dd_107_98 (by decide) (fun q10 => ?_) (fun q10 => ?_)
          · replace h := z_f h q10
            refine zg_iconst dd_107_105 kI_2 ?_
            obtain rfl := Option.some.inj h
            exact zg_iret dd_107_106 rfl
          · replace h := z_t h q10
            refine zg_iconst dd_107_101 kI_1 ?_
            refine zg_goto (tgt := 106) dd_107_102 (by decide) ?_
            obtain rfl := Option.some.inj h
            exact zg_iret dd_107_106 rfl
        · replace h := z_t h q9
          refine zg_iconst dd_107_86 kI_0 ?_
          obtain rfl := Option.some.inj h
          exact zg_iret dd_107_87 rfl
      · replace h := z_t h q7
        refine zg_aload_n dd_107_71 rfl (j := 1) rfl ?_
        refine zg_iconst dd_107_72 kI_2 ?_
        obtain ⟨r11, e12, h⟩ := z_bd h
        refine zg_invV_i (av := [.inl (2 : Int32)]) (st := []) (n := 1) dd_107_73 ca_2 zw_430 zw_432 zv_0 zCs_0 zcl_11 rfl (mt_fc_T_refuse e12) rfl ⟨by decide +kernel, by decide⟩ (Nat.le_of_ble_eq_true rfl) ?_
        obtain rfl := Option.some.inj h
        exact zg_iret dd_107_76 rfl
    · replace h := z_t h q4
      refine zg_aload_n dd_107_39 rfl (j := 1) rfl ?_
      refine zg_getR dd_107_40 zl_T_12 zCs_0 rfl zCr_0_0 ?_
      refine zg_getR dd_107_43 zl_T_76 zCs_1 rfl zCr_1_0 ?_
      refine zg_getR dd_107_46 zl_T_110 zCs_2 rfl zCr_2_4 ?_
      refine zg_iload_n dd_107_49 rfl (j := 2) rfl ?_
      obtain ⟨g13, h⟩ := z_gd h
      refine zg_iald (w := (I 5 a1.toNatClampNeg)) dd_107_50 zCs_5 g13 rfl ?_
      obtain rfl := Option.some.inj h
      exact zg_iret dd_107_51 rfl
  · replace h := z_t h q3
    refine zg_aload_n dd_107_22 rfl (j := 1) rfl ?_
    refine zg_iconst dd_107_23 kI_1 ?_
    obtain ⟨r14, e15, h⟩ := z_bd h
    refine zg_invV_i (av := [.inl (1 : Int32)]) (st := []) (n := 1) dd_107_24 ca_2 zw_430 zw_432 zv_0 zCs_0 zcl_11 rfl (mt_fc_T_refuse e15) rfl ⟨by decide +kernel, by decide⟩ (Nat.le_of_ble_eq_true rfl) ?_
    obtain rfl := Option.some.inj h
    exact zg_iret dd_107_27 rfl
/-! TurnedLand$Doubts.mostTelling[29, None] -/
def fc_Doubts_mostTelling_L7 (I : zI) : Nat → Int32 → Int32 → Int32 → Int32 → Option Int32
  | 0, _, _, _, _ => none
  | nf + 1, v1, v2, v3, v4 =>
    if v1 ≤ v4 then
      some v2
    else
      z_guard (zb v4 10) <|
      if (I 34 v4.toNatClampNeg) < 0 then
        fc_Doubts_mostTelling_L7 I nf v1 v2 v3 (v4 + (1 : Int32))
      else
        if v2 < 0 then
          fc_Doubts_mostTelling_L7 I nf v1 v4 (zmax (I 33 v4.toNatClampNeg) ((I 29 4) - (I 33 v4.toNatClampNeg))) (v4 + (1 : Int32))
        else
          if v3 ≤ (zmax (I 33 v4.toNatClampNeg) ((I 29 4) - (I 33 v4.toNatClampNeg))) then
            fc_Doubts_mostTelling_L7 I nf v1 v2 v3 (v4 + (1 : Int32))
          else
            fc_Doubts_mostTelling_L7 I nf v1 v4 (zmax (I 33 v4.toNatClampNeg) ((I 29 4) - (I 33 v4.toNatClampNeg))) (v4 + (1 : Int32))
def fc_Doubts_mostTelling (I : zI) (a1 : Int32) : Option Int32 :=
  fc_Doubts_mostTelling_L7 I
    100 a1 (-1 : Int32) (0 : Int32) (0 : Int32)
set_option maxRecDepth 20000 in
theorem lt_fc_Doubts_mostTelling_L7 {res : Int32} {I : zI} : ∀ (nf : Nat) (v1 : Int32) (v2 : Int32) (v3 : Int32) (v4 : Int32), fc_Doubts_mostTelling_L7 I nf v1 v2 v3 v4 = some res → zG 1 ym_109 0 0 (some (.inl res)) (zCs, zCr, I) zCs.length 7 [(0, .inr (.inr (some 29))), (1, .inl v1), (2, .inl v2), (3, .inl v3), (4, .inl v4)] [] (zCs, zCr, I) 0 0 := by
  intro nf
  induction nf with
  | zero =>
    intro v1 v2 v3 v4 h
    have h2 : none = some res := h
    cases h2
  | succ nf ih =>
    intro v1 v2 v3 v4 h
    rw [fc_Doubts_mostTelling_L7] at h
    refine zg_iload dd_109_7 (j := 4) rfl ?_
    refine zg_iload_n dd_109_9 rfl (j := 1) rfl ?_
    refine zg_icmp_ge (tgt := 69) dd_109_10 (by decide) (fun q1 => ?_) (fun q1 => ?_)
    · replace h := z_t h q1
      refine zg_iload_n dd_109_69 rfl (j := 2) rfl ?_
      obtain rfl := Option.some.inj h
      exact zg_iret dd_109_70 rfl
    · replace h := z_f h q1
      refine zg_aload_n dd_109_13 rfl (j := 0) rfl ?_
      refine zg_getR dd_109_14 zl_Doubts_31 zCs_29 rfl zCr_29_6 ?_
      refine zg_iload dd_109_17 (j := 4) rfl ?_
      obtain ⟨g2, h⟩ := z_gd h
      refine zg_iald (w := (I 33 v4.toNatClampNeg)) dd_109_19 zCs_33 g2 rfl ?_
      refine zg_aload_n dd_109_20 rfl (j := 0) rfl ?_
      refine zg_getI (x := (I 29 4)) dd_109_21 zl_Doubts_25 zCs_29 rfl rfl ?_
      refine zg_aload_n dd_109_24 rfl (j := 0) rfl ?_
      refine zg_getR dd_109_25 zl_Doubts_31 zCs_29 rfl zCr_29_6 ?_
      refine zg_iload dd_109_28 (j := 4) rfl ?_
      refine zg_iald (w := (I 33 v4.toNatClampNeg)) dd_109_30 zCs_33 g2 rfl ?_
      refine zg_isub dd_109_31 ?_
      refine zg_zmax (st := []) dd_109_32 zw_894 zmax_w (Nat.le_of_ble_eq_true rfl) (Nat.le_of_ble_eq_true rfl) ?_
      refine zg_istore dd_109_35 (Nat.le_of_ble_eq_true rfl) (lv' := [(5, .inl (zmax (I 33 v4.toNatClampNeg) ((I 29 4) - (I 33 v4.toNatClampNeg)))), (0, .inr (.inr (some 29))), (1, .inl v1), (2, .inl v2), (3, .inl v3), (4, .inl v4)]) rfl ?_
      refine zg_aload_n dd_109_37 rfl (j := 1) rfl ?_
      refine zg_getR dd_109_38 zl_Doubts_34 zCs_29 rfl zCr_29_7 ?_
      refine zg_iload dd_109_41 (j := 5) rfl ?_
      refine zg_iald (w := (I 34 v4.toNatClampNeg)) dd_109_43 zCs_34 g2 rfl ?_
      refine zg_if_lt (tgt := 63) dd_109_44 (by decide) (fun q3 => ?_) (fun q3 => ?_)
      · replace h := z_t h q3
        refine zg_iinc dd_109_63 (j := 5) rfl (v := (v4 + (1 : Int32))) (by rw [kI_1]) (Nat.le_of_ble_eq_true rfl) (lv' := [(4, .inl (v4 + (1 : Int32))), (5, .inl (zmax (I 33 v4.toNatClampNeg) ((I 29 4) - (I 33 v4.toNatClampNeg)))), (0, .inr (.inr (some 29))), (1, .inl v1), (2, .inl v2), (3, .inl v3)]) rfl ?_
        refine zg_goto (tgt := 7) dd_109_66 (by decide) ?_
        refine zg_sub [2, 3, 4, 5, 0] rfl ?_
        exact ih _ _ _ _ h
      · replace h := z_f h q3
        refine zg_iload_n dd_109_47 rfl (j := 3) rfl ?_
        refine zg_if_lt (tgt := 57) dd_109_48 (by decide) (fun q4 => ?_) (fun q4 => ?_)
        · replace h := z_t h q4
          refine zg_iload dd_109_57 (j := 5) rfl ?_
          refine zg_istore_n dd_109_59 rfl (Nat.le_of_ble_eq_true rfl) (lv' := [(2, .inl v4), (5, .inl (zmax (I 33 v4.toNatClampNeg) ((I 29 4) - (I 33 v4.toNatClampNeg)))), (0, .inr (.inr (some 29))), (1, .inl v1), (3, .inl v3), (4, .inl v4)]) rfl ?_
          refine zg_iload dd_109_60 (j := 1) rfl ?_
          refine zg_istore_n dd_109_62 rfl (Nat.le_of_ble_eq_true rfl) (lv' := [(3, .inl (zmax (I 33 v4.toNatClampNeg) ((I 29 4) - (I 33 v4.toNatClampNeg)))), (2, .inl v4), (5, .inl (zmax (I 33 v4.toNatClampNeg) ((I 29 4) - (I 33 v4.toNatClampNeg)))), (0, .inr (.inr (some 29))), (1, .inl v1), (4, .inl v4)]) rfl ?_
          refine zg_iinc dd_109_63 (j := 5) rfl (v := (v4 + (1 : Int32))) (by rw [kI_1]) (Nat.le_of_ble_eq_true rfl) (lv' := [(4, .inl (v4 + (1 : Int32))), (3, .inl (zmax (I 33 v4.toNatClampNeg) ((I 29 4) - (I 33 v4.toNatClampNeg)))), (2, .inl v4), (5, .inl (zmax (I 33 v4.toNatClampNeg) ((I 29 4) - (I 33 v4.toNatClampNeg)))), (0, .inr (.inr (some 29))), (1, .inl v1)]) rfl ?_
          refine zg_goto (tgt := 7) dd_109_66 (by decide) ?_
          refine zg_sub [4, 5, 2, 1, 0] rfl ?_
          exact ih _ _ _ _ h
        · replace h := z_f h q4
          refine zg_iload dd_109_51 (j := 0) rfl ?_
          refine zg_iload_n dd_109_53 rfl (j := 4) rfl ?_
          refine zg_icmp_ge (tgt := 63) dd_109_54 (by decide) (fun q5 => ?_) (fun q5 => ?_)
          · replace h := z_t h q5
            refine zg_iinc dd_109_63 (j := 5) rfl (v := (v4 + (1 : Int32))) (by rw [kI_1]) (Nat.le_of_ble_eq_true rfl) (lv' := [(4, .inl (v4 + (1 : Int32))), (5, .inl (zmax (I 33 v4.toNatClampNeg) ((I 29 4) - (I 33 v4.toNatClampNeg)))), (0, .inr (.inr (some 29))), (1, .inl v1), (2, .inl v2), (3, .inl v3)]) rfl ?_
            refine zg_goto (tgt := 7) dd_109_66 (by decide) ?_
            refine zg_sub [2, 3, 4, 5, 0] rfl ?_
            exact ih _ _ _ _ h
          · replace h := z_f h q5
            refine zg_iload dd_109_57 (j := 5) rfl ?_
            refine zg_istore_n dd_109_59 rfl (Nat.le_of_ble_eq_true rfl) (lv' := [(2, .inl v4), (5, .inl (zmax (I 33 v4.toNatClampNeg) ((I 29 4) - (I 33 v4.toNatClampNeg)))), (0, .inr (.inr (some 29))), (1, .inl v1), (3, .inl v3), (4, .inl v4)]) rfl ?_
            refine zg_iload dd_109_60 (j := 1) rfl ?_
            refine zg_istore_n dd_109_62 rfl (Nat.le_of_ble_eq_true rfl) (lv' := [(3, .inl (zmax (I 33 v4.toNatClampNeg) ((I 29 4) - (I 33 v4.toNatClampNeg)))), (2, .inl v4), (5, .inl (zmax (I 33 v4.toNatClampNeg) ((I 29 4) - (I 33 v4.toNatClampNeg)))), (0, .inr (.inr (some 29))), (1, .inl v1), (4, .inl v4)]) rfl ?_
            refine zg_iinc dd_109_63 (j := 5) rfl (v := (v4 + (1 : Int32))) (by rw [kI_1]) (Nat.le_of_ble_eq_true rfl) (lv' := [(4, .inl (v4 + (1 : Int32))), (3, .inl (zmax (I 33 v4.toNatClampNeg) ((I 29 4) - (I 33 v4.toNatClampNeg)))), (2, .inl v4), (5, .inl (zmax (I 33 v4.toNatClampNeg) ((I 29 4) - (I 33 v4.toNatClampNeg)))), (0, .inr (.inr (some 29))), (1, .inl v1)]) rfl ?_
            refine zg_goto (tgt := 7) dd_109_66 (by decide) ?_
            refine zg_sub [4, 5, 2, 1, 0] rfl ?_
            exact ih _ _ _ _ h
set_option maxRecDepth 20000 in
theorem mt_fc_Doubts_mostTelling {I : zI} {a1 : Int32} {res : Int32} (h : fc_Doubts_mostTelling I a1 = some res) : zM 1 ym_109 [.inr (.inr (some 29)), .inl a1] (zCs, zCr, I) (some (.inl res)) (zCs, zCr, I) 0 0 := by
  refine zM_of (by decide) (Nat.le_of_ble_eq_true rfl) (lv := [(0, .inr (.inr (some 29))), (1, .inl a1)]) rfl ?_
  rw [fc_Doubts_mostTelling] at h
  refine zg_iconst dd_109_0 kI_m1 ?_
  refine zg_istore_n dd_109_1 rfl (Nat.le_of_ble_eq_true rfl) (lv' := [(2, .inl (-1 : Int32)), (0, .inr (.inr (some 29))), (1, .inl a1)]) rfl ?_
  refine zg_iconst dd_109_2 kI_0 ?_
  refine zg_istore_n dd_109_3 rfl (Nat.le_of_ble_eq_true rfl) (lv' := [(3, .inl (0 : Int32)), (2, .inl (-1 : Int32)), (0, .inr (.inr (some 29))), (1, .inl a1)]) rfl ?_
  refine zg_iconst dd_109_4 kI_0 ?_
  refine zg_istore dd_109_5 (Nat.le_of_ble_eq_true rfl) (lv' := [(4, .inl (0 : Int32)), (3, .inl (0 : Int32)), (2, .inl (-1 : Int32)), (0, .inr (.inr (some 29))), (1, .inl a1)]) rfl ?_
  refine zg_sub [3, 4, 2, 1, 0] rfl ?_
  refine lt_fc_Doubts_mostTelling_L7  _ _ _ _ _ h
/-! TurnedLand.test(0,) -/
def fc_T_test (I : zI) : Option (Int32 × zI) :=
  (fc_Doubts_weigh I).bind fun r1 =>
  (fc_Doubts_mostTelling r1 (r1 7 0)).bind fun r3 =>
  if 0 ≤ r3 then
    some (r3, r1)
  else
    (fc_T_refuse r1 (2 : Int32)).bind fun r6 =>
    some (r6.1, r6.2)
set_option maxRecDepth 20000 in
theorem mt_fc_T_test {I : zI} {res : (Int32 × zI)} (h : fc_T_test I = some res) : zM 6 ym_108 [.inr (.inr (some 0))] (zCs, zCr, I) (some (.inl res.1)) (zCs, zCr, res.2) 0 0 := by
  refine zM_of (by decide) (Nat.le_of_ble_eq_true rfl) (lv := [(0, .inr (.inr (some 0)))]) rfl ?_
  rw [fc_T_test] at h
  refine zg_aload_n dd_108_0 rfl (j := 0) rfl ?_
  refine zg_getR dd_108_1 zl_T_12 zCs_0 rfl zCr_0_0 ?_
  refine zg_getR dd_108_4 zl_T_122 zCs_1 rfl zCr_1_3 ?_
  refine zg_aload_n dd_108_7 rfl (j := 0) rfl ?_
  refine zg_getR dd_108_8 zl_T_12 zCs_0 rfl zCr_0_0 ?_
  refine zg_aload_n dd_108_11 rfl (j := 0) rfl ?_
  refine zg_getR dd_108_12 zl_T_58 zCs_0 rfl zCr_0_10 ?_
  obtain ⟨r1, e2, h⟩ := z_bd h
  refine zg_invV_v (av := [.inr (.inr (some 1)), .inr (.inr (some 178))]) (st := []) (n := 2) dd_108_15 ca_100 zw_852 zw_853 zw_854 zCs_29 zcl_0 rfl (mt_fc_Doubts_weigh e2) rfl ⟨by decide +kernel, by decide⟩ (Nat.le_of_ble_eq_true rfl) ?_
  refine zg_aload_n dd_108_18 rfl (j := 0) rfl ?_
  refine zg_getR dd_108_19 zl_T_12 zCs_0 rfl zCr_0_0 ?_
  refine zg_getR dd_108_22 zl_T_122 zCs_1 rfl zCr_1_3 ?_
  refine zg_aload_n dd_108_25 rfl (j := 0) rfl ?_
  refine zg_getR dd_108_26 zl_T_12 zCs_0 rfl zCr_0_0 ?_
  refine zg_getR dd_108_29 zl_T_199 zCs_1 rfl zCr_1_1 ?_
  refine zg_getI (x := (r1 7 0)) dd_108_32 zl_T_208 zCs_7 rfl rfl ?_
  obtain ⟨r3, e4, h⟩ := z_bd h
  refine zg_invV_i (av := [.inl (r1 7 0)]) (st := []) (n := 1) dd_108_35 ca_109 zw_890 zw_891 zw_892 zCs_29 zcl_0 rfl (mt_fc_Doubts_mostTelling e4) rfl ⟨by decide +kernel, by decide⟩ (Nat.le_of_ble_eq_true rfl) ?_
  refine zg_istore_n dd_108_38 rfl (Nat.le_of_ble_eq_true rfl) (lv' := [(1, .inl r3), (0, .inr (.inr (some 0)))]) rfl ?_
  refine zg_iload_n dd_108_39 rfl (j := 0) rfl ?_
  refine zg_if_ge (tgt := 51) dd_108_40 (by decide) (fun q5 => ?_) (fun q5 => ?_)
  · replace h := z_t h q5
    refine zg_iload_n dd_108_51 rfl (j := 0) rfl ?_
    obtain rfl := Option.some.inj h
    exact zg_iret dd_108_52 rfl
  · replace h := z_f h q5
    refine zg_aload_n dd_108_43 rfl (j := 1) rfl ?_
    refine zg_iconst dd_108_44 kI_2 ?_
    obtain ⟨r6, e7, h⟩ := z_bd h
    refine zg_invV_i (av := [.inl (2 : Int32)]) (st := []) (n := 1) dd_108_45 ca_2 zw_430 zw_432 zv_0 zCs_0 zcl_11 rfl (mt_fc_T_refuse e7) rfl ⟨by decide +kernel, by decide⟩ (Nat.le_of_ble_eq_true rfl) ?_
    refine zg_goto (tgt := 52) dd_108_48 (by decide) ?_
    obtain rfl := Option.some.inj h
    exact zg_iret dd_108_52 rfl
/-! TurnedLand.seed(0, None) -/
def fc_T_seed (I : zI) (a1 : Int32) : Option (Int32 × zI) :=
  some ((I 1 10), (zup I 1 10 a1))
set_option maxRecDepth 20000 in
theorem mt_fc_T_seed {I : zI} {a1 : Int32} {res : (Int32 × zI)} (h : fc_T_seed I a1 = some res) : zM 1 ym_110 [.inr (.inr (some 0)), .inl a1] (zCs, zCr, I) (some (.inl res.1)) (zCs, zCr, res.2) 0 0 := by
  refine zM_of (by decide) (Nat.le_of_ble_eq_true rfl) (lv := [(0, .inr (.inr (some 0))), (1, .inl a1)]) rfl ?_
  rw [fc_T_seed] at h
  refine zg_aload_n dd_110_0 rfl (j := 0) rfl ?_
  refine zg_getR dd_110_1 zl_T_12 zCs_0 rfl zCr_0_0 ?_
  refine zg_getI (x := (I 1 10)) dd_110_4 zl_T_331 zCs_1 rfl rfl ?_
  refine zg_istore_n dd_110_7 rfl (Nat.le_of_ble_eq_true rfl) (lv' := [(2, .inl (I 1 10)), (0, .inr (.inr (some 0))), (1, .inl a1)]) rfl ?_
  refine zg_aload_n dd_110_8 rfl (j := 1) rfl ?_
  refine zg_getR dd_110_9 zl_T_12 zCs_0 rfl zCr_0_0 ?_
  refine zg_iload_n dd_110_12 rfl (j := 2) rfl ?_
  refine zg_putI dd_110_13 zp_T_331 zCs_1 rfl (zSt_int _) ?_
  refine zg_iload_n dd_110_16 rfl (j := 0) rfl ?_
  obtain rfl := Option.some.inj h
  exact zg_iret dd_110_17 rfl
/-! TurnedLand$Voices.begin[184, None] -/
def fc_Voices_begin (I : zI) (a1 : Int32) : Option zI :=
  if (I 184 1) < (30 : Int32) then
    z_guard (zb (I 184 1) 30) <|
    some (zup (zup I 185 (I 184 1).toNatClampNeg a1) 184 1 ((I 184 1) + (1 : Int32)))
  else
    some I
set_option maxRecDepth 20000 in
theorem mt_fc_Voices_begin {I : zI} {a1 : Int32} {res : zI} (h : fc_Voices_begin I a1 = some res) : zM 1 ym_114 [.inr (.inr (some 184)), .inl a1] (zCs, zCr, I) none (zCs, zCr, res) 0 0 := by
  refine zM_of (by decide) (Nat.le_of_ble_eq_true rfl) (lv := [(0, .inr (.inr (some 184))), (1, .inl a1)]) rfl ?_
  rw [fc_Voices_begin] at h
  refine zg_aload_n dd_114_0 rfl (j := 0) rfl ?_
  refine zg_getI (x := (I 184 1)) dd_114_1 zl_Voices_15 zCs_184 rfl rfl ?_
  refine zg_bipush dd_114_4 kB_30 ?_
  refine zg_icmp_lt (tgt := 10) dd_114_6 (by decide) (fun q1 => ?_) (fun q1 => ?_)
  · replace h := z_t h q1
    refine zg_aload_n dd_114_10 rfl (j := 0) rfl ?_
    refine zg_getR dd_114_11 zl_Voices_9 zCs_184 rfl zCr_184_0 ?_
    refine zg_aload_n dd_114_14 rfl (j := 0) rfl ?_
    refine zg_getI (x := (I 184 1)) dd_114_15 zl_Voices_15 zCs_184 rfl rfl ?_
    refine zg_iload_n dd_114_18 rfl (j := 1) rfl ?_
    obtain ⟨g2, h⟩ := z_gd h
    refine zg_iast dd_114_19 zCs_185 g2 ?_
    refine zg_aload_n dd_114_20 rfl (j := 0) rfl ?_
    refine zg_dup dd_114_21 rfl ?_
    refine zg_getI (x := (I 184 1)) dd_114_22 zl_Voices_15 zCs_184 rfl rfl ?_
    refine zg_iconst dd_114_25 kI_1 ?_
    refine zg_iadd dd_114_26 ?_
    refine zg_putI dd_114_27 zp_Voices_15 zCs_184 rfl (zSt_int _) ?_
    obtain rfl := Option.some.inj h
    exact zg_vret dd_114_30 rfl
  · replace h := z_f h q1
    obtain rfl := Option.some.inj h
    exact zg_vret dd_114_9 rfl
/-! TurnedLand$Voices.divide[184, None] -/
def fc_Voices_divide (I : zI) (a1 : Int32) : Option (Int32 × zI) :=
  if ((I 184 5) - (I 184 4)) = 0 then
    some ((0 : Int32), (zup I 184 2 (1 : Int32)))
  else
    if ((I 184 5) - (I 184 4)) = 0 then none else
    some ((a1 / ((I 184 5) - (I 184 4))), I)
set_option maxRecDepth 20000 in
theorem mt_fc_Voices_divide {I : zI} {a1 : Int32} {res : (Int32 × zI)} (h : fc_Voices_divide I a1 = some res) : zM 1 ym_116 [.inr (.inr (some 184)), .inl a1] (zCs, zCr, I) (some (.inl res.1)) (zCs, zCr, res.2) 0 0 := by
  refine zM_of (by decide) (Nat.le_of_ble_eq_true rfl) (lv := [(0, .inr (.inr (some 184))), (1, .inl a1)]) rfl ?_
  rw [fc_Voices_divide] at h
  refine zg_aload_n dd_116_0 rfl (j := 0) rfl ?_
  refine zg_getI (x := (I 184 5)) dd_116_1 zl_Voices_29 zCs_184 rfl rfl ?_
  refine zg_aload_n dd_116_4 rfl (j := 0) rfl ?_
  refine zg_getI (x := (I 184 4)) dd_116_5 zl_Voices_26 zCs_184 rfl rfl ?_
  refine zg_isub dd_116_8 ?_
  refine zg_istore_n dd_116_9 rfl (Nat.le_of_ble_eq_true rfl) (lv' := [(2, .inl ((I 184 5) - (I 184 4))), (0, .inr (.inr (some 184))), (1, .inl a1)]) rfl ?_
  refine zg_iload_n dd_116_10 rfl (j := 0) rfl ?_
  refine zg_if_ne (tgt := 21) dd_116_11 (by decide) (fun q1 => ?_) (fun q1 => ?_)
  · replace h := z_f h q1
    refine zg_iload_n dd_116_21 rfl (j := 2) rfl ?_
    refine zg_iload_n dd_116_22 rfl (j := 0) rfl ?_
    rcases z_if h with ⟨_, h⟩ | ⟨g2, h⟩
    · cases h
    refine zg_idiv dd_116_23 g2 ?_
    obtain rfl := Option.some.inj h
    exact zg_iret dd_116_24 rfl
  · replace h := z_t h q1
    refine zg_aload_n dd_116_14 rfl (j := 1) rfl ?_
    refine zg_iconst dd_116_15 kI_1 ?_
    refine zg_putI dd_116_16 zp_Voices_19 zCs_184 rfl zSt_b1 ?_
    refine zg_iconst dd_116_19 kI_0 ?_
    obtain rfl := Option.some.inj h
    exact zg_iret dd_116_20 rfl
/-! TurnedLand$Voices.endsRound[184, None, None, None] -/
def fc_Voices_endsRound (rc : zI → Int32 → Int32 → Int32 → Int32 → Option (Int32 × zI)) (I : zI) (a1 : Int32) (a2 : Int32) (a3 : Int32) : Option (Int32 × zI) :=
  (rc I a1 (3 : Int32) a2 a3).bind fun r1 =>
  if (r1.2 184 2) = 0 then
    (rc r1.2 (r1.2 184 3) (1 : Int32) (1 : Int32) a3).bind fun r4 =>
    some ((r1.1 + r4.1), r4.2)
  else
    some ((0 : Int32), r1.2)
set_option maxRecDepth 20000 in
theorem mt_fc_Voices_endsRound {rc : zI → Int32 → Int32 → Int32 → Int32 → Option (Int32 × zI)} {dd : Nat} (hrc : ∀ (I : zI) (x0 : Int32) (x1 : Int32) (x2 : Int32) (x3 : Int32) (res : (Int32 × zI)), rc I x0 x1 x2 x3 = some res → zM dd ym_113 [.inr (.inr (some 184)), .inl x0, .inl x1, .inl x2, .inl x3] (zCs, zCr, I) (some (.inl res.1)) (zCs, zCr, res.2) 0 0) {I : zI} {a1 : Int32} {a2 : Int32} {a3 : Int32} {res : (Int32 × zI)} (h : fc_Voices_endsRound rc I a1 a2 a3 = some res) : zM (dd + 1) ym_117 [.inr (.inr (some 184)), .inl a1, .inl a2, .inl a3] (zCs, zCr, I) (some (.inl res.1)) (zCs, zCr, res.2) 0 0 := by
  refine zM_of (by decide) (Nat.le_of_ble_eq_true rfl) (lv := [(0, .inr (.inr (some 184))), (1, .inl a1), (2, .inl a2), (3, .inl a3)]) rfl ?_
  rw [fc_Voices_endsRound] at h
  refine zg_aload_n dd_117_0 rfl (j := 0) rfl ?_
  refine zg_iload_n dd_117_1 rfl (j := 1) rfl ?_
  refine zg_iconst dd_117_2 kI_3 ?_
  refine zg_iload_n dd_117_3 rfl (j := 2) rfl ?_
  refine zg_iload_n dd_117_4 rfl (j := 3) rfl ?_
  obtain ⟨r1, e2, h⟩ := z_bd h
  refine zg_invV_i (av := [.inl a1, .inl (3 : Int32), .inl a2, .inl a3]) (st := []) (n := 4) dd_117_5 ca_113 zw_907 zw_909 zv_24 zCs_184 zcl_6 rfl (hrc _ _ _ _ _ _ e2) rfl ⟨by omega, by decide⟩ (Nat.le_of_ble_eq_true rfl) ?_
  refine zg_istore dd_117_8 (Nat.le_of_ble_eq_true rfl) (lv' := [(4, .inl r1.1), (0, .inr (.inr (some 184))), (1, .inl a1), (2, .inl a2), (3, .inl a3)]) rfl ?_
  refine zg_aload_n dd_117_10 rfl (j := 1) rfl ?_
  refine zg_getI (x := (r1.2 184 2)) dd_117_11 zl_Voices_19 zCs_184 rfl rfl ?_
  refine zg_if_eq (tgt := 21) dd_117_14 (by decide) (fun q3 => ?_) (fun q3 => ?_)
  · replace h := z_t h q3
    refine zg_iload dd_117_21 (j := 0) rfl ?_
    refine zg_aload_n dd_117_23 rfl (j := 1) rfl ?_
    refine zg_aload_n dd_117_24 rfl (j := 1) rfl ?_
    refine zg_getI (x := (r1.2 184 3)) dd_117_25 zl_Voices_23 zCs_184 rfl rfl ?_
    refine zg_iconst dd_117_28 kI_1 ?_
    refine zg_iconst dd_117_29 kI_1 ?_
    refine zg_iload_n dd_117_30 rfl (j := 4) rfl ?_
    obtain ⟨r4, e5, h⟩ := z_bd h
    refine zg_invV_i (av := [.inl (r1.2 184 3), .inl (1 : Int32), .inl (1 : Int32), .inl a3]) (st := [.inl r1.1]) (n := 4) dd_117_31 ca_113 zw_907 zw_909 zv_24 zCs_184 zcl_6 rfl (hrc _ _ _ _ _ _ e5) rfl ⟨by omega, by decide⟩ (Nat.le_of_ble_eq_true rfl) ?_
    refine zg_iadd dd_117_34 ?_
    obtain rfl := Option.some.inj h
    exact zg_iret dd_117_35 rfl
  · replace h := z_f h q3
    refine zg_iconst dd_117_17 kI_0 ?_
    refine zg_goto (tgt := 35) dd_117_18 (by decide) ?_
    obtain rfl := Option.some.inj h
    exact zg_iret dd_117_35 rfl
/-! TurnedLand$Voices.endsWhole[184, None, None, None] -/
def fc_Voices_endsWhole (rc : zI → Int32 → Int32 → Int32 → Int32 → Option (Int32 × zI)) (I : zI) (a1 : Int32) (a2 : Int32) (a3 : Int32) : Option (Int32 × zI) :=
  (rc I a1 (3 : Int32) a2 a3).bind fun r1 =>
  if (r1.2 184 2) = 0 then
    (rc r1.2 (r1.2 184 3) (2 : Int32) (0 : Int32) a3).bind fun r4 =>
    some ((r1.1 - r4.1), r4.2)
  else
    some ((0 : Int32), r1.2)
set_option maxRecDepth 20000 in
theorem mt_fc_Voices_endsWhole {rc : zI → Int32 → Int32 → Int32 → Int32 → Option (Int32 × zI)} {dd : Nat} (hrc : ∀ (I : zI) (x0 : Int32) (x1 : Int32) (x2 : Int32) (x3 : Int32) (res : (Int32 × zI)), rc I x0 x1 x2 x3 = some res → zM dd ym_113 [.inr (.inr (some 184)), .inl x0, .inl x1, .inl x2, .inl x3] (zCs, zCr, I) (some (.inl res.1)) (zCs, zCr, res.2) 0 0) {I : zI} {a1 : Int32} {a2 : Int32} {a3 : Int32} {res : (Int32 × zI)} (h : fc_Voices_endsWhole rc I a1 a2 a3 = some res) : zM (dd + 1) ym_118 [.inr (.inr (some 184)), .inl a1, .inl a2, .inl a3] (zCs, zCr, I) (some (.inl res.1)) (zCs, zCr, res.2) 0 0 := by
  refine zM_of (by decide) (Nat.le_of_ble_eq_true rfl) (lv := [(0, .inr (.inr (some 184))), (1, .inl a1), (2, .inl a2), (3, .inl a3)]) rfl ?_
  rw [fc_Voices_endsWhole] at h
  refine zg_aload_n dd_118_0 rfl (j := 0) rfl ?_
  refine zg_iload_n dd_118_1 rfl (j := 1) rfl ?_
  refine zg_iconst dd_118_2 kI_3 ?_
  refine zg_iload_n dd_118_3 rfl (j := 2) rfl ?_
  refine zg_iload_n dd_118_4 rfl (j := 3) rfl ?_
  obtain ⟨r1, e2, h⟩ := z_bd h
  refine zg_invV_i (av := [.inl a1, .inl (3 : Int32), .inl a2, .inl a3]) (st := []) (n := 4) dd_118_5 ca_113 zw_907 zw_909 zv_24 zCs_184 zcl_6 rfl (hrc _ _ _ _ _ _ e2) rfl ⟨by omega, by decide⟩ (Nat.le_of_ble_eq_true rfl) ?_
  refine zg_istore dd_118_8 (Nat.le_of_ble_eq_true rfl) (lv' := [(4, .inl r1.1), (0, .inr (.inr (some 184))), (1, .inl a1), (2, .inl a2), (3, .inl a3)]) rfl ?_
  refine zg_aload_n dd_118_10 rfl (j := 1) rfl ?_
  refine zg_getI (x := (r1.2 184 2)) dd_118_11 zl_Voices_19 zCs_184 rfl rfl ?_
  refine zg_if_eq (tgt := 21) dd_118_14 (by decide) (fun q3 => ?_) (fun q3 => ?_)
  · replace h := z_t h q3
    refine zg_iload dd_118_21 (j := 0) rfl ?_
    refine zg_aload_n dd_118_23 rfl (j := 1) rfl ?_
    refine zg_aload_n dd_118_24 rfl (j := 1) rfl ?_
    refine zg_getI (x := (r1.2 184 3)) dd_118_25 zl_Voices_23 zCs_184 rfl rfl ?_
    refine zg_iconst dd_118_28 kI_2 ?_
    refine zg_iconst dd_118_29 kI_0 ?_
    refine zg_iload_n dd_118_30 rfl (j := 4) rfl ?_
    obtain ⟨r4, e5, h⟩ := z_bd h
    refine zg_invV_i (av := [.inl (r1.2 184 3), .inl (2 : Int32), .inl (0 : Int32), .inl a3]) (st := [.inl r1.1]) (n := 4) dd_118_31 ca_113 zw_907 zw_909 zv_24 zCs_184 zcl_6 rfl (hrc _ _ _ _ _ _ e5) rfl ⟨by omega, by decide⟩ (Nat.le_of_ble_eq_true rfl) ?_
    refine zg_isub dd_118_34 ?_
    obtain rfl := Option.some.inj h
    exact zg_iret dd_118_35 rfl
  · replace h := z_f h q3
    refine zg_iconst dd_118_17 kI_0 ?_
    refine zg_goto (tgt := 35) dd_118_18 (by decide) ?_
    obtain rfl := Option.some.inj h
    exact zg_iret dd_118_35 rfl
/-! TurnedLand$Voices.work[184, None, None, None, None] -/
def fc_Voices_work (rc : zI → Int32 → Int32 → Int32 → Int32 → Option (Int32 × zI)) (I : zI) (a1 : Int32) (a2 : Int32) (a3 : Int32) (a4 : Int32) : Option (Int32 × zI) :=
  z_guard (zb a2 7) <|
  if a1 = (10 : Int32) then
    some ((a3 + (I 184 4)), I)
  else if a1 = (11 : Int32) then
    (rc I (I 184 3) (0 : Int32) a3 a4).bind fun r4 =>
    some ((r4.1 * (2 : Int32)), r4.2)
  else if a1 = (12 : Int32) then
    (rc I (I 184 3) (1 : Int32) a3 a4).bind fun r7 =>
    some ((r7.1 - (r7.2 184 5)), r7.2)
  else if a1 = (13 : Int32) then
    (fc_Voices_divide I a3).bind fun r10 =>
    some (r10.1, r10.2)
  else if a1 = (20 : Int32) then
    (rc I (zLst [-1, 0, 1, 1, 0, 0, 2] a2.toNatClampNeg) (0 : Int32) a3 a4).bind fun r13 =>
    some ((r13.1 - (7 : Int32)), r13.2)
  else if a1 = (21 : Int32) then
    (fc_Voices_endsRound rc I (zLst [-1, 0, 1, 1, 0, 0, 2] a2.toNatClampNeg) a3 a4).bind fun r16 =>
    some (r16.1, r16.2)
  else if a1 = (30 : Int32) then
    (rc I (zLst [-1, 0, 1, 1, 0, 0, 2] a2.toNatClampNeg) (1 : Int32) a3 a4).bind fun r19 =>
    some (((0 : Int32) - r19.1), r19.2)
  else if a1 = (40 : Int32) then
    (rc I (zLst [-1, 0, 1, 1, 0, 0, 2] a2.toNatClampNeg) (2 : Int32) (a3 / (2 : Int32)) a4).bind fun r22 =>
    some (r22.1, r22.2)
  else if a1 = (41 : Int32) then
    (rc I (zLst [-1, 0, 1, 1, 0, 0, 2] a2.toNatClampNeg) (0 : Int32) a3 a4).bind fun r25 =>
    some ((r25.1 ^^^ (r25.2 184 4)), r25.2)
  else if a1 = (50 : Int32) then
    (rc I (zLst [-1, 0, 1, 1, 0, 0, 2] a2.toNatClampNeg) (2 : Int32) (a3 + (1 : Int32)) a4).bind fun r28 =>
    some (r28.1, r28.2)
  else if a1 = (60 : Int32) then
    some ((2 : Int32), I)
  else if a1 = (61 : Int32) then
    (rc I (zLst [-1, 0, 1, 1, 0, 0, 2] a2.toNatClampNeg) (1 : Int32) a3 a4).bind fun r32 =>
    some ((r32.1 + (r32.2 184 5)), r32.2)
  else if a1 = (70 : Int32) then
    (rc I (zLst [-1, 0, 1, 1, 0, 0, 2] a2.toNatClampNeg) (0 : Int32) a3 a4).bind fun r35 =>
    some ((r35.1 * (3 : Int32)), r35.2)
  else if a1 = (71 : Int32) then
    (fc_Voices_endsWhole rc I (zLst [-1, 0, 1, 1, 0, 0, 2] a2.toNatClampNeg) a3 a4).bind fun r38 =>
    some (r38.1, r38.2)
  else
    some ((0 : Int32), I)
set_option maxRecDepth 20000 in
theorem mt_fc_Voices_work {rc : zI → Int32 → Int32 → Int32 → Int32 → Option (Int32 × zI)} {dd : Nat} (hrc : ∀ (I : zI) (x0 : Int32) (x1 : Int32) (x2 : Int32) (x3 : Int32) (res : (Int32 × zI)), rc I x0 x1 x2 x3 = some res → zM dd ym_113 [.inr (.inr (some 184)), .inl x0, .inl x1, .inl x2, .inl x3] (zCs, zCr, I) (some (.inl res.1)) (zCs, zCr, res.2) 0 0) {I : zI} {a1 : Int32} {a2 : Int32} {a3 : Int32} {a4 : Int32} {res : (Int32 × zI)} (h : fc_Voices_work rc I a1 a2 a3 a4 = some res) : zM (dd + 2) ym_115 [.inr (.inr (some 184)), .inl a1, .inl a2, .inl a3, .inl a4] (zCs, zCr, I) (some (.inl res.1)) (zCs, zCr, res.2) 0 0 := by
  refine zM_of (by decide) (Nat.le_of_ble_eq_true rfl) (lv := [(0, .inr (.inr (some 184))), (1, .inl a1), (2, .inl a2), (3, .inl a3), (4, .inl a4)]) rfl ?_
  rw [fc_Voices_work] at h
  refine zg_gstN (host := "TurnedLand") dd_115_0 (List.mem_of_getElem? (i := 2) rfl) (List.mem_of_getElem? (i := 0) rfl) ?_
  refine zg_iload_n dd_115_3 rfl (j := 2) rfl ?_
  obtain ⟨g1, h⟩ := z_gd h
  refine zg_tiald dd_115_4 (List.mem_of_getElem? (i := 2) rfl) g1 ?_
  refine zg_istore dd_115_5 (Nat.le_of_ble_eq_true rfl) (lv' := [(5, .inl (zLst [-1, 0, 1, 1, 0, 0, 2] a2.toNatClampNeg)), (0, .inr (.inr (some 184))), (1, .inl a1), (2, .inl a2), (3, .inl a3), (4, .inl a4)]) rfl ?_
  refine zg_iload_n dd_115_7 rfl (j := 2) rfl ?_
  rcases z_if h with ⟨q2, h⟩ | ⟨q2, h⟩
  · refine zg_lookIn (tgt := 132) 124 dd_115_8 (by decide) q2 (by decide) (by decide) ?_
    refine zg_iload_n dd_115_132 rfl (j := 4) rfl ?_
    refine zg_aload_n dd_115_133 rfl (j := 1) rfl ?_
    refine zg_getI (x := (I 184 4)) dd_115_134 zl_Voices_26 zCs_184 rfl rfl ?_
    refine zg_iadd dd_115_137 ?_
    obtain rfl := Option.some.inj h
    exact zg_iret dd_115_138 rfl
  rcases z_if h with ⟨q3, h⟩ | ⟨q3, h⟩
  · refine zg_lookIn (tgt := 139) 131 dd_115_8 (by decide) q3 (by decide) (by decide) ?_
    refine zg_aload_n dd_115_139 rfl (j := 1) rfl ?_
    refine zg_aload_n dd_115_140 rfl (j := 1) rfl ?_
    refine zg_getI (x := (I 184 3)) dd_115_141 zl_Voices_23 zCs_184 rfl rfl ?_
    refine zg_iconst dd_115_144 kI_0 ?_
    refine zg_iload_n dd_115_145 rfl (j := 4) rfl ?_
    refine zg_iload dd_115_146 (j := 5) rfl ?_
    obtain ⟨r4, e5, h⟩ := z_bd h
    refine zg_invV_i (av := [.inl (I 184 3), .inl (0 : Int32), .inl a3, .inl a4]) (st := []) (n := 4) dd_115_148 ca_113 zw_907 zw_909 zv_24 zCs_184 zcl_6 rfl (hrc _ _ _ _ _ _ e5) rfl ⟨by omega, by decide⟩ (Nat.le_of_ble_eq_true rfl) ?_
    refine zg_iconst dd_115_151 kI_2 ?_
    refine zg_imul dd_115_152 ?_
    obtain rfl := Option.some.inj h
    exact zg_iret dd_115_153 rfl
  rcases z_if h with ⟨q6, h⟩ | ⟨q6, h⟩
  · refine zg_lookIn (tgt := 154) 146 dd_115_8 (by decide) q6 (by decide) (by decide) ?_
    refine zg_aload_n dd_115_154 rfl (j := 1) rfl ?_
    refine zg_aload_n dd_115_155 rfl (j := 1) rfl ?_
    refine zg_getI (x := (I 184 3)) dd_115_156 zl_Voices_23 zCs_184 rfl rfl ?_
    refine zg_iconst dd_115_159 kI_1 ?_
    refine zg_iload_n dd_115_160 rfl (j := 4) rfl ?_
    refine zg_iload dd_115_161 (j := 5) rfl ?_
    obtain ⟨r7, e8, h⟩ := z_bd h
    refine zg_invV_i (av := [.inl (I 184 3), .inl (1 : Int32), .inl a3, .inl a4]) (st := []) (n := 4) dd_115_163 ca_113 zw_907 zw_909 zv_24 zCs_184 zcl_6 rfl (hrc _ _ _ _ _ _ e8) rfl ⟨by omega, by decide⟩ (Nat.le_of_ble_eq_true rfl) ?_
    refine zg_aload_n dd_115_166 rfl (j := 1) rfl ?_
    refine zg_getI (x := (r7.2 184 5)) dd_115_167 zl_Voices_29 zCs_184 rfl rfl ?_
    refine zg_isub dd_115_170 ?_
    obtain rfl := Option.some.inj h
    exact zg_iret dd_115_171 rfl
  rcases z_if h with ⟨q9, h⟩ | ⟨q9, h⟩
  · refine zg_lookIn (tgt := 172) 164 dd_115_8 (by decide) q9 (by decide) (by decide) ?_
    refine zg_aload_n dd_115_172 rfl (j := 1) rfl ?_
    refine zg_iload_n dd_115_173 rfl (j := 4) rfl ?_
    obtain ⟨r10, e11, h⟩ := z_bd h
    refine zg_invV_i (av := [.inl a3]) (st := []) (n := 1) dd_115_174 ca_116 zw_923 zw_925 zv_27 zCs_184 zcl_6 rfl (mt_fc_Voices_divide e11) rfl ⟨by omega, by decide⟩ (Nat.le_of_ble_eq_true rfl) ?_
    obtain rfl := Option.some.inj h
    exact zg_iret dd_115_177 rfl
  rcases z_if h with ⟨q12, h⟩ | ⟨q12, h⟩
  · refine zg_lookIn (tgt := 178) 170 dd_115_8 (by decide) q12 (by decide) (by decide) ?_
    refine zg_aload_n dd_115_178 rfl (j := 1) rfl ?_
    refine zg_iload dd_115_179 (j := 0) rfl ?_
    refine zg_iconst dd_115_181 kI_0 ?_
    refine zg_iload_n dd_115_182 rfl (j := 4) rfl ?_
    refine zg_iload dd_115_183 (j := 5) rfl ?_
    obtain ⟨r13, e14, h⟩ := z_bd h
    refine zg_invV_i (av := [.inl (zLst [-1, 0, 1, 1, 0, 0, 2] a2.toNatClampNeg), .inl (0 : Int32), .inl a3, .inl a4]) (st := []) (n := 4) dd_115_185 ca_113 zw_907 zw_909 zv_24 zCs_184 zcl_6 rfl (hrc _ _ _ _ _ _ e14) rfl ⟨by omega, by decide⟩ (Nat.le_of_ble_eq_true rfl) ?_
    refine zg_bipush dd_115_188 kB_7 ?_
    refine zg_isub dd_115_190 ?_
    obtain rfl := Option.some.inj h
    exact zg_iret dd_115_191 rfl
  rcases z_if h with ⟨q15, h⟩ | ⟨q15, h⟩
  · refine zg_lookIn (tgt := 192) 184 dd_115_8 (by decide) q15 (by decide) (by decide) ?_
    refine zg_aload_n dd_115_192 rfl (j := 1) rfl ?_
    refine zg_iload dd_115_193 (j := 0) rfl ?_
    refine zg_iload_n dd_115_195 rfl (j := 4) rfl ?_
    refine zg_iload dd_115_196 (j := 5) rfl ?_
    obtain ⟨r16, e17, h⟩ := z_bd h
    refine zg_invV_i (av := [.inl (zLst [-1, 0, 1, 1, 0, 0, 2] a2.toNatClampNeg), .inl a3, .inl a4]) (st := []) (n := 3) dd_115_198 ca_117 zw_927 zw_929 zv_28 zCs_184 zcl_6 rfl (mt_fc_Voices_endsRound hrc e17) rfl ⟨by omega, by decide⟩ (Nat.le_of_ble_eq_true rfl) ?_
    obtain rfl := Option.some.inj h
    exact zg_iret dd_115_201 rfl
  rcases z_if h with ⟨q18, h⟩ | ⟨q18, h⟩
  · refine zg_lookIn (tgt := 202) 194 dd_115_8 (by decide) q18 (by decide) (by decide) ?_
    refine zg_iconst dd_115_202 kI_0 ?_
    refine zg_aload_n dd_115_203 rfl (j := 1) rfl ?_
    refine zg_iload dd_115_204 (j := 0) rfl ?_
    refine zg_iconst dd_115_206 kI_1 ?_
    refine zg_iload_n dd_115_207 rfl (j := 4) rfl ?_
    refine zg_iload dd_115_208 (j := 5) rfl ?_
    obtain ⟨r19, e20, h⟩ := z_bd h
    refine zg_invV_i (av := [.inl (zLst [-1, 0, 1, 1, 0, 0, 2] a2.toNatClampNeg), .inl (1 : Int32), .inl a3, .inl a4]) (st := [.inl (0 : Int32)]) (n := 4) dd_115_210 ca_113 zw_907 zw_909 zv_24 zCs_184 zcl_6 rfl (hrc _ _ _ _ _ _ e20) rfl ⟨by omega, by decide⟩ (Nat.le_of_ble_eq_true rfl) ?_
    refine zg_isub dd_115_213 ?_
    obtain rfl := Option.some.inj h
    exact zg_iret dd_115_214 rfl
  rcases z_if h with ⟨q21, h⟩ | ⟨q21, h⟩
  · refine zg_lookIn (tgt := 215) 207 dd_115_8 (by decide) q21 (by decide) (by decide) ?_
    refine zg_aload_n dd_115_215 rfl (j := 1) rfl ?_
    refine zg_iload dd_115_216 (j := 0) rfl ?_
    refine zg_iconst dd_115_218 kI_2 ?_
    refine zg_iload_n dd_115_219 rfl (j := 4) rfl ?_
    refine zg_iconst dd_115_220 kI_2 ?_
    refine zg_idiv dd_115_221 (by decide) ?_
    refine zg_iload dd_115_222 (j := 5) rfl ?_
    obtain ⟨r22, e23, h⟩ := z_bd h
    refine zg_invV_i (av := [.inl (zLst [-1, 0, 1, 1, 0, 0, 2] a2.toNatClampNeg), .inl (2 : Int32), .inl (a3 / (2 : Int32)), .inl a4]) (st := []) (n := 4) dd_115_224 ca_113 zw_907 zw_909 zv_24 zCs_184 zcl_6 rfl (hrc _ _ _ _ _ _ e23) rfl ⟨by omega, by decide⟩ (Nat.le_of_ble_eq_true rfl) ?_
    obtain rfl := Option.some.inj h
    exact zg_iret dd_115_227 rfl
  rcases z_if h with ⟨q24, h⟩ | ⟨q24, h⟩
  · refine zg_lookIn (tgt := 228) 220 dd_115_8 (by decide) q24 (by decide) (by decide) ?_
    refine zg_aload_n dd_115_228 rfl (j := 1) rfl ?_
    refine zg_iload dd_115_229 (j := 0) rfl ?_
    refine zg_iconst dd_115_231 kI_0 ?_
    refine zg_iload_n dd_115_232 rfl (j := 4) rfl ?_
    refine zg_iload dd_115_233 (j := 5) rfl ?_
    obtain ⟨r25, e26, h⟩ := z_bd h
    refine zg_invV_i (av := [.inl (zLst [-1, 0, 1, 1, 0, 0, 2] a2.toNatClampNeg), .inl (0 : Int32), .inl a3, .inl a4]) (st := []) (n := 4) dd_115_235 ca_113 zw_907 zw_909 zv_24 zCs_184 zcl_6 rfl (hrc _ _ _ _ _ _ e26) rfl ⟨by omega, by decide⟩ (Nat.le_of_ble_eq_true rfl) ?_
    refine zg_aload_n dd_115_238 rfl (j := 1) rfl ?_
    refine zg_getI (x := (r25.2 184 4)) dd_115_239 zl_Voices_26 zCs_184 rfl rfl ?_
    refine zg_ixor dd_115_242 ?_
    obtain rfl := Option.some.inj h
    exact zg_iret dd_115_243 rfl
  rcases z_if h with ⟨q27, h⟩ | ⟨q27, h⟩
  · refine zg_lookIn (tgt := 244) 236 dd_115_8 (by decide) q27 (by decide) (by decide) ?_
    refine zg_aload_n dd_115_244 rfl (j := 1) rfl ?_
    refine zg_iload dd_115_245 (j := 0) rfl ?_
    refine zg_iconst dd_115_247 kI_2 ?_
    refine zg_iload_n dd_115_248 rfl (j := 4) rfl ?_
    refine zg_iconst dd_115_249 kI_1 ?_
    refine zg_iadd dd_115_250 ?_
    refine zg_iload dd_115_251 (j := 5) rfl ?_
    obtain ⟨r28, e29, h⟩ := z_bd h
    refine zg_invV_i (av := [.inl (zLst [-1, 0, 1, 1, 0, 0, 2] a2.toNatClampNeg), .inl (2 : Int32), .inl (a3 + (1 : Int32)), .inl a4]) (st := []) (n := 4) dd_115_253 ca_113 zw_907 zw_909 zv_24 zCs_184 zcl_6 rfl (hrc _ _ _ _ _ _ e29) rfl ⟨by omega, by decide⟩ (Nat.le_of_ble_eq_true rfl) ?_
    obtain rfl := Option.some.inj h
    exact zg_iret dd_115_256 rfl
  rcases z_if h with ⟨q30, h⟩ | ⟨q30, h⟩
  · refine zg_lookIn (tgt := 257) 249 dd_115_8 (by decide) q30 (by decide) (by decide) ?_
    refine zg_iconst dd_115_257 kI_2 ?_
    obtain rfl := Option.some.inj h
    exact zg_iret dd_115_258 rfl
  rcases z_if h with ⟨q31, h⟩ | ⟨q31, h⟩
  · refine zg_lookIn (tgt := 259) 251 dd_115_8 (by decide) q31 (by decide) (by decide) ?_
    refine zg_aload_n dd_115_259 rfl (j := 1) rfl ?_
    refine zg_iload dd_115_260 (j := 0) rfl ?_
    refine zg_iconst dd_115_262 kI_1 ?_
    refine zg_iload_n dd_115_263 rfl (j := 4) rfl ?_
    refine zg_iload dd_115_264 (j := 5) rfl ?_
    obtain ⟨r32, e33, h⟩ := z_bd h
    refine zg_invV_i (av := [.inl (zLst [-1, 0, 1, 1, 0, 0, 2] a2.toNatClampNeg), .inl (1 : Int32), .inl a3, .inl a4]) (st := []) (n := 4) dd_115_266 ca_113 zw_907 zw_909 zv_24 zCs_184 zcl_6 rfl (hrc _ _ _ _ _ _ e33) rfl ⟨by omega, by decide⟩ (Nat.le_of_ble_eq_true rfl) ?_
    refine zg_aload_n dd_115_269 rfl (j := 1) rfl ?_
    refine zg_getI (x := (r32.2 184 5)) dd_115_270 zl_Voices_29 zCs_184 rfl rfl ?_
    refine zg_iadd dd_115_273 ?_
    obtain rfl := Option.some.inj h
    exact zg_iret dd_115_274 rfl
  rcases z_if h with ⟨q34, h⟩ | ⟨q34, h⟩
  · refine zg_lookIn (tgt := 275) 267 dd_115_8 (by decide) q34 (by decide) (by decide) ?_
    refine zg_aload_n dd_115_275 rfl (j := 1) rfl ?_
    refine zg_iload dd_115_276 (j := 0) rfl ?_
    refine zg_iconst dd_115_278 kI_0 ?_
    refine zg_iload_n dd_115_279 rfl (j := 4) rfl ?_
    refine zg_iload dd_115_280 (j := 5) rfl ?_
    obtain ⟨r35, e36, h⟩ := z_bd h
    refine zg_invV_i (av := [.inl (zLst [-1, 0, 1, 1, 0, 0, 2] a2.toNatClampNeg), .inl (0 : Int32), .inl a3, .inl a4]) (st := []) (n := 4) dd_115_282 ca_113 zw_907 zw_909 zv_24 zCs_184 zcl_6 rfl (hrc _ _ _ _ _ _ e36) rfl ⟨by omega, by decide⟩ (Nat.le_of_ble_eq_true rfl) ?_
    refine zg_iconst dd_115_285 kI_3 ?_
    refine zg_imul dd_115_286 ?_
    obtain rfl := Option.some.inj h
    exact zg_iret dd_115_287 rfl
  rcases z_if h with ⟨q37, h⟩ | ⟨q37, h⟩
  · refine zg_lookIn (tgt := 288) 280 dd_115_8 (by decide) q37 (by decide) (by decide) ?_
    refine zg_aload_n dd_115_288 rfl (j := 1) rfl ?_
    refine zg_iload dd_115_289 (j := 0) rfl ?_
    refine zg_iload_n dd_115_291 rfl (j := 4) rfl ?_
    refine zg_iload dd_115_292 (j := 5) rfl ?_
    obtain ⟨r38, e39, h⟩ := z_bd h
    refine zg_invV_i (av := [.inl (zLst [-1, 0, 1, 1, 0, 0, 2] a2.toNatClampNeg), .inl a3, .inl a4]) (st := []) (n := 3) dd_115_294 ca_118 zw_931 zw_933 zv_29 zCs_184 zcl_6 rfl (mt_fc_Voices_endsWhole hrc e39) rfl ⟨by omega, by decide⟩ (Nat.le_of_ble_eq_true rfl) ?_
    obtain rfl := Option.some.inj h
    exact zg_iret dd_115_297 rfl
  refine zg_lookOut (tgt := 298) [(10 : Int32), (11 : Int32), (12 : Int32), (13 : Int32), (20 : Int32), (21 : Int32), (30 : Int32), (40 : Int32), (41 : Int32), (50 : Int32), (60 : Int32), (61 : Int32), (70 : Int32), (71 : Int32)] dd_115_8 (by decide) (by decide +kernel) (by simp only [List.mem_cons, List.not_mem_nil, or_false]; rintro _ (rfl | rfl | rfl | rfl | rfl | rfl | rfl | rfl | rfl | rfl | rfl | rfl | rfl | rfl) <;> assumption) (by decide) ?_
  refine zg_iconst dd_115_298 kI_0 ?_
  obtain rfl := Option.some.inj h
  exact zg_iret dd_115_299 rfl
/-! TurnedLand$Voices.say[184, None, None, None, None] -/
def fc_Voices_say_L6 (rc : zI → Int32 → Int32 → Int32 → Int32 → Option (Int32 × zI)) : Nat → Int32 → Int32 → Int32 → Int32 → Int32 → zI → Option (Int32 × zI)
  | 0, _, _, _, _, _, _ => none
  | nf + 1, v2, v3, v4, v5, v6, I =>
    if (7 : Int32) ≤ v6 then
      some ((0 : Int32), I)
    else
      (fc_T_within I v5 (0 : Int32) (6 : Int32)).bind fun r2 =>
      if r2 = 0 then
        some ((0 : Int32), I)
      else
        z_guard (zb (((4 : Int32) * v5) + v2) 28) <|
        if (zLst [10, 11, 12, 13, 20, 0, 0, 21, 0, 30, 0, 0, 41, 0, 40, 0, 0, 0, 50, 0, 60, 61, 0, 0, 70, 0, 0, 71] (((4 : Int32) * v5) + v2).toNatClampNeg) = 0 then
          z_guard (zb v5 7) <|
          fc_Voices_say_L6 rc nf v2 v3 v4 (zLst [-1, 0, 1, 1, 0, 0, 2] v5.toNatClampNeg) (v6 + (1 : Int32)) I
        else
          (fc_Voices_begin I (zLst [10, 11, 12, 13, 20, 0, 0, 21, 0, 30, 0, 0, 41, 0, 40, 0, 0, 0, 50, 0, 60, 61, 0, 0, 70, 0, 0, 71] (((4 : Int32) * v5) + v2).toNatClampNeg)).bind fun r8 =>
          if (40 : Int32) ≤ v4 then
            some ((0 : Int32), r8)
          else
            (fc_Voices_work rc r8 (zLst [10, 11, 12, 13, 20, 0, 0, 21, 0, 30, 0, 0, 41, 0, 40, 0, 0, 0, 50, 0, 60, 61, 0, 0, 70, 0, 0, 71] (((4 : Int32) * v5) + v2).toNatClampNeg) v5 v3 (v4 + (1 : Int32))).bind fun r11 =>
            some (r11.1, r11.2)
def fc_Voices_sayB (rc : zI → Int32 → Int32 → Int32 → Int32 → Option (Int32 × zI)) (I : zI) (a1 : Int32) (a2 : Int32) (a3 : Int32) (a4 : Int32) : Option (Int32 × zI) :=
  fc_Voices_say_L6 rc
    100 a2 a3 a4 a1 (0 : Int32) I
def fc_Voices_say : Nat → zI → Int32 → Int32 → Int32 → Int32 → Option (Int32 × zI)
  | 0 => fun _ _ _ _ _ => none
  | nf + 1 => fc_Voices_sayB (fc_Voices_say nf)
set_option maxRecDepth 20000 in
theorem lt_fc_Voices_say_L6 {rc : zI → Int32 → Int32 → Int32 → Int32 → Option (Int32 × zI)} {dd : Nat} (hrc : ∀ (I : zI) (x0 : Int32) (x1 : Int32) (x2 : Int32) (x3 : Int32) (res : (Int32 × zI)), rc I x0 x1 x2 x3 = some res → zM dd ym_113 [.inr (.inr (some 184)), .inl x0, .inl x1, .inl x2, .inl x3] (zCs, zCr, I) (some (.inl res.1)) (zCs, zCr, res.2) 0 0) {res : (Int32 × zI)} : ∀ (nf : Nat) (v2 : Int32) (v3 : Int32) (v4 : Int32) (v5 : Int32) (v6 : Int32) (I : zI), fc_Voices_say_L6 rc nf v2 v3 v4 v5 v6 I = some res → zG (dd + 3) ym_113 0 0 (some (.inl res.1)) (zCs, zCr, res.2) zCs.length 6 [(0, .inr (.inr (some 184))), (2, .inl v2), (3, .inl v3), (4, .inl v4), (5, .inl v5), (6, .inl v6)] [] (zCs, zCr, I) 0 0 := by
  intro nf
  induction nf with
  | zero =>
    intro v2 v3 v4 v5 v6 I h
    have h2 : none = some res := h
    cases h2
  | succ nf ih =>
    intro v2 v3 v4 v5 v6 I h
    rw [fc_Voices_say_L6] at h
    refine zg_iload dd_113_6 (j := 5) rfl ?_
    refine zg_bipush dd_113_8 kB_7 ?_
    refine zg_icmp_ge (tgt := 86) dd_113_10 (by decide) (fun q1 => ?_) (fun q1 => ?_)
    · replace h := z_t h q1
      refine zg_iconst dd_113_86 kI_0 ?_
      obtain rfl := Option.some.inj h
      exact zg_iret dd_113_87 rfl
    · replace h := z_f h q1
      refine zg_iload dd_113_13 (j := 4) rfl ?_
      refine zg_iconst dd_113_15 kI_0 ?_
      refine zg_bipush dd_113_16 kB_6 ?_
      obtain ⟨r2, e3, h⟩ := z_bd h
      refine zg_invSN_i (av := [.inl v5, .inl (0 : Int32), .inl (6 : Int32)]) (st := []) (n := 3) dd_113_18 ca_1 (List.mem_of_getElem? (i := 16) rfl) zw_428 (mt_fc_T_within e3) rfl ⟨by omega, by decide⟩ (Nat.le_of_ble_eq_true rfl) ?_
      refine zg_if_eq (tgt := 86) dd_113_21 (by decide) (fun q4 => ?_) (fun q4 => ?_)
      · replace h := z_t h q4
        refine zg_iconst dd_113_86 kI_0 ?_
        obtain rfl := Option.some.inj h
        exact zg_iret dd_113_87 rfl
      · replace h := z_f h q4
        refine zg_gst dd_113_24 (List.mem_of_getElem? (i := 3) rfl) zw_912 ?_
        refine zg_iconst dd_113_27 kI_4 ?_
        refine zg_iload dd_113_28 (j := 4) rfl ?_
        refine zg_imul dd_113_30 ?_
        refine zg_iload_n dd_113_31 rfl (j := 1) rfl ?_
        refine zg_iadd dd_113_32 ?_
        obtain ⟨g5, h⟩ := z_gd h
        refine zg_tiald dd_113_33 (List.mem_of_getElem? (i := 3) rfl) g5 ?_
        refine zg_istore dd_113_34 (Nat.le_of_ble_eq_true rfl) (lv' := [(7, .inl (zLst [10, 11, 12, 13, 20, 0, 0, 21, 0, 30, 0, 0, 41, 0, 40, 0, 0, 0, 50, 0, 60, 61, 0, 0, 70, 0, 0, 71] (((4 : Int32) * v5) + v2).toNatClampNeg)), (0, .inr (.inr (some 184))), (2, .inl v2), (3, .inl v3), (4, .inl v4), (5, .inl v5), (6, .inl v6)]) rfl ?_
        refine zg_iload dd_113_36 (j := 0) rfl ?_
        refine zg_if_eq (tgt := 72) dd_113_38 (by decide) (fun q6 => ?_) (fun q6 => ?_)
        · replace h := z_t h q6
          refine zg_gstN (host := "TurnedLand") dd_113_72 (List.mem_of_getElem? (i := 2) rfl) (List.mem_of_getElem? (i := 0) rfl) ?_
          refine zg_iload dd_113_75 (j := 5) rfl ?_
          obtain ⟨g7, h⟩ := z_gd h
          refine zg_tiald dd_113_77 (List.mem_of_getElem? (i := 2) rfl) g7 ?_
          refine zg_istore dd_113_78 (Nat.le_of_ble_eq_true rfl) (lv' := [(5, .inl (zLst [-1, 0, 1, 1, 0, 0, 2] v5.toNatClampNeg)), (7, .inl (zLst [10, 11, 12, 13, 20, 0, 0, 21, 0, 30, 0, 0, 41, 0, 40, 0, 0, 0, 50, 0, 60, 61, 0, 0, 70, 0, 0, 71] (((4 : Int32) * v5) + v2).toNatClampNeg)), (0, .inr (.inr (some 184))), (2, .inl v2), (3, .inl v3), (4, .inl v4), (6, .inl v6)]) rfl ?_
          refine zg_iinc dd_113_80 (j := 6) rfl (v := (v6 + (1 : Int32))) (by rw [kI_1]) (Nat.le_of_ble_eq_true rfl) (lv' := [(6, .inl (v6 + (1 : Int32))), (5, .inl (zLst [-1, 0, 1, 1, 0, 0, 2] v5.toNatClampNeg)), (7, .inl (zLst [10, 11, 12, 13, 20, 0, 0, 21, 0, 30, 0, 0, 41, 0, 40, 0, 0, 0, 50, 0, 60, 61, 0, 0, 70, 0, 0, 71] (((4 : Int32) * v5) + v2).toNatClampNeg)), (0, .inr (.inr (some 184))), (2, .inl v2), (3, .inl v3), (4, .inl v4)]) rfl ?_
          refine zg_goto (tgt := 6) dd_113_83 (by decide) ?_
          refine zg_sub [3, 4, 5, 6, 1, 0] rfl ?_
          exact ih _ _ _ _ _ _ h
        · replace h := z_f h q6
          refine zg_aload_n dd_113_41 rfl (j := 1) rfl ?_
          refine zg_iload dd_113_42 (j := 0) rfl ?_
          obtain ⟨r8, e9, h⟩ := z_bd h
          refine zg_invV_v (av := [.inl (zLst [10, 11, 12, 13, 20, 0, 0, 21, 0, 30, 0, 0, 41, 0, 40, 0, 0, 0, 50, 0, 60, 61, 0, 0, 70, 0, 0, 71] (((4 : Int32) * v5) + v2).toNatClampNeg)]) (st := []) (n := 1) dd_113_44 ca_114 zw_914 zw_916 zv_25 zCs_184 zcl_6 rfl (mt_fc_Voices_begin e9) rfl ⟨by omega, by decide⟩ (Nat.le_of_ble_eq_true rfl) ?_
          refine zg_iload dd_113_47 (j := 4) rfl ?_
          refine zg_bipush dd_113_49 kB_40 ?_
          refine zg_icmp_ge (tgt := 70) dd_113_51 (by decide) (fun q10 => ?_) (fun q10 => ?_)
          · replace h := z_t h q10
            refine zg_iconst dd_113_70 kI_0 ?_
            obtain rfl := Option.some.inj h
            exact zg_iret dd_113_71 rfl
          · replace h := z_f h q10
            refine zg_aload_n dd_113_54 rfl (j := 1) rfl ?_
            refine zg_iload dd_113_55 (j := 0) rfl ?_
            refine zg_iload dd_113_57 (j := 5) rfl ?_
            refine zg_iload_n dd_113_59 rfl (j := 3) rfl ?_
            refine zg_iload dd_113_60 (j := 4) rfl ?_
            refine zg_iconst dd_113_62 kI_1 ?_
            refine zg_iadd dd_113_63 ?_
            obtain ⟨r11, e12, h⟩ := z_bd h
            refine zg_invV_i (av := [.inl (zLst [10, 11, 12, 13, 20, 0, 0, 21, 0, 30, 0, 0, 41, 0, 40, 0, 0, 0, 50, 0, 60, 61, 0, 0, 70, 0, 0, 71] (((4 : Int32) * v5) + v2).toNatClampNeg), .inl v5, .inl v3, .inl (v4 + (1 : Int32))]) (st := []) (n := 4) dd_113_64 ca_115 zw_918 zw_920 zv_26 zCs_184 zcl_6 rfl (mt_fc_Voices_work hrc e12) rfl ⟨by omega, by decide⟩ (Nat.le_of_ble_eq_true rfl) ?_
            refine zg_goto (tgt := 71) dd_113_67 (by decide) ?_
            obtain rfl := Option.some.inj h
            exact zg_iret dd_113_71 rfl
set_option maxRecDepth 20000 in
theorem mt_fc_Voices_sayB {rc : zI → Int32 → Int32 → Int32 → Int32 → Option (Int32 × zI)} {dd : Nat} (hrc : ∀ (I : zI) (x0 : Int32) (x1 : Int32) (x2 : Int32) (x3 : Int32) (res : (Int32 × zI)), rc I x0 x1 x2 x3 = some res → zM dd ym_113 [.inr (.inr (some 184)), .inl x0, .inl x1, .inl x2, .inl x3] (zCs, zCr, I) (some (.inl res.1)) (zCs, zCr, res.2) 0 0) {I : zI} {a1 : Int32} {a2 : Int32} {a3 : Int32} {a4 : Int32} {res : (Int32 × zI)} (h : fc_Voices_sayB rc I a1 a2 a3 a4 = some res) : zM (dd + 3) ym_113 [.inr (.inr (some 184)), .inl a1, .inl a2, .inl a3, .inl a4] (zCs, zCr, I) (some (.inl res.1)) (zCs, zCr, res.2) 0 0 := by
  refine zM_of (by decide) (Nat.le_of_ble_eq_true rfl) (lv := [(0, .inr (.inr (some 184))), (1, .inl a1), (2, .inl a2), (3, .inl a3), (4, .inl a4)]) rfl ?_
  rw [fc_Voices_sayB] at h
  refine zg_iload_n dd_113_0 rfl (j := 1) rfl ?_
  refine zg_istore dd_113_1 (Nat.le_of_ble_eq_true rfl) (lv' := [(5, .inl a1), (0, .inr (.inr (some 184))), (1, .inl a1), (2, .inl a2), (3, .inl a3), (4, .inl a4)]) rfl ?_
  refine zg_iconst dd_113_3 kI_0 ?_
  refine zg_istore dd_113_4 (Nat.le_of_ble_eq_true rfl) (lv' := [(6, .inl (0 : Int32)), (5, .inl a1), (0, .inr (.inr (some 184))), (1, .inl a1), (2, .inl a2), (3, .inl a3), (4, .inl a4)]) rfl ?_
  refine zg_sub [2, 4, 5, 6, 1, 0] rfl ?_
  refine lt_fc_Voices_say_L6 hrc  _ _ _ _ _ _ _ h
set_option maxRecDepth 20000 in
theorem mt_fc_Voices_say : ∀ (nf : Nat) (I : zI) (a1 : Int32) (a2 : Int32) (a3 : Int32) (a4 : Int32) (res : (Int32 × zI)), fc_Voices_say nf I a1 a2 a3 a4 = some res → zM (zdp 3 nf) ym_113 [.inr (.inr (some 184)), .inl a1, .inl a2, .inl a3, .inl a4] (zCs, zCr, I) (some (.inl res.1)) (zCs, zCr, res.2) 0 0
  | 0, I, a1, a2, a3, a4, res, h => by
    have h2 : none = some res := h
    cases h2
  | nf + 1, I, a1, a2, a3, a4, res, h => mt_fc_Voices_sayB (mt_fc_Voices_say nf) h
/-! TurnedLand$Voices.speak[184, None, None, None, None, None] -/
def fc_Voices_speak (I : zI) (a1 : Int32) (a2 : Int32) (a3 : Int32) (a4 : Int32) (a5 : Int32) : Option (Int32 × zI) :=
  (fc_Voices_say 40 (zup (zup (zup (zup (zup I 184 3 a1) 184 4 a2) 184 5 a3) 184 1 (0 : Int32)) 184 2 (0 : Int32)) a1 a4 a5 (0 : Int32)).bind fun r1 =>
  some (r1.1, r1.2)
set_option maxRecDepth 20000 in
theorem mt_fc_Voices_speak {I : zI} {a1 : Int32} {a2 : Int32} {a3 : Int32} {a4 : Int32} {a5 : Int32} {res : (Int32 × zI)} (h : fc_Voices_speak I a1 a2 a3 a4 a5 = some res) : zM 121 ym_112 [.inr (.inr (some 184)), .inl a1, .inl a2, .inl a3, .inl a4, .inl a5] (zCs, zCr, I) (some (.inl res.1)) (zCs, zCr, res.2) 0 0 := by
  refine zM_of (by decide) (Nat.le_of_ble_eq_true rfl) (lv := [(0, .inr (.inr (some 184))), (1, .inl a1), (2, .inl a2), (3, .inl a3), (4, .inl a4), (5, .inl a5)]) rfl ?_
  rw [fc_Voices_speak] at h
  refine zg_aload_n dd_112_0 rfl (j := 0) rfl ?_
  refine zg_iload_n dd_112_1 rfl (j := 1) rfl ?_
  refine zg_putI dd_112_2 zp_Voices_23 zCs_184 rfl (zSt_int _) ?_
  refine zg_aload_n dd_112_5 rfl (j := 0) rfl ?_
  refine zg_iload_n dd_112_6 rfl (j := 2) rfl ?_
  refine zg_putI dd_112_7 zp_Voices_26 zCs_184 rfl (zSt_int _) ?_
  refine zg_aload_n dd_112_10 rfl (j := 0) rfl ?_
  refine zg_iload_n dd_112_11 rfl (j := 3) rfl ?_
  refine zg_putI dd_112_12 zp_Voices_29 zCs_184 rfl (zSt_int _) ?_
  refine zg_aload_n dd_112_15 rfl (j := 0) rfl ?_
  refine zg_iconst dd_112_16 kI_0 ?_
  refine zg_putI dd_112_17 zp_Voices_15 zCs_184 rfl (zSt_int _) ?_
  refine zg_aload_n dd_112_20 rfl (j := 0) rfl ?_
  refine zg_iconst dd_112_21 kI_0 ?_
  refine zg_putI dd_112_22 zp_Voices_19 zCs_184 rfl zSt_b0 ?_
  refine zg_aload_n dd_112_25 rfl (j := 0) rfl ?_
  refine zg_aload_n dd_112_26 rfl (j := 0) rfl ?_
  refine zg_getI (x := a1) dd_112_27 zl_Voices_23 zCs_184 rfl rfl ?_
  refine zg_iload dd_112_30 (j := 4) rfl ?_
  refine zg_iload dd_112_32 (j := 5) rfl ?_
  refine zg_iconst dd_112_34 kI_0 ?_
  obtain ⟨r1, e2, h⟩ := z_bd h
  refine zg_invV_i (av := [.inl a1, .inl a4, .inl a5, .inl (0 : Int32)]) (st := []) (n := 4) dd_112_35 ca_113 zw_907 zw_909 zv_24 zCs_184 zcl_6 rfl (mt_fc_Voices_say 40 _ _ _ _ _ _ e2) rfl ⟨by decide +kernel, by decide⟩ (Nat.le_of_ble_eq_true rfl) ?_
  obtain rfl := Option.some.inj h
  exact zg_iret dd_112_38 rfl
/-! TurnedLand.voice(0, None, None, None) -/
def fc_T_voice (I : zI) (a1 : Int32) (a2 : Int32) (a3 : Int32) : Option (Int32 × zI) :=
  (fc_Walks_has I a1).bind fun r1 =>
  if r1 = 0 then
    (fc_T_refuse I (1 : Int32)).bind fun r4 =>
    some (r4.1, r4.2)
  else
    (fc_T_within I a2 (0 : Int32) (3 : Int32)).bind fun r6 =>
    if r6 = 0 then
      (fc_T_refuse I (1 : Int32)).bind fun r15 =>
      some (r15.1, r15.2)
    else
      z_guard (zb a1 10) <|
      (fc_Voices_speak I (I 8 a1.toNatClampNeg) a1 (I 10 a1.toNatClampNeg) a2 a3).bind fun r10 =>
      if (r10.2 184 2) = 0 then
        some (r10.1, r10.2)
      else
        (fc_T_refuse r10.2 (6 : Int32)).bind fun r13 =>
        some (r13.1, r13.2)
set_option maxRecDepth 20000 in
theorem mt_fc_T_voice {I : zI} {a1 : Int32} {a2 : Int32} {a3 : Int32} {res : (Int32 × zI)} (h : fc_T_voice I a1 a2 a3 = some res) : zM 122 ym_111 [.inr (.inr (some 0)), .inl a1, .inl a2, .inl a3] (zCs, zCr, I) (some (.inl res.1)) (zCs, zCr, res.2) 0 0 := by
  refine zM_of (by decide) (Nat.le_of_ble_eq_true rfl) (lv := [(0, .inr (.inr (some 0))), (1, .inl a1), (2, .inl a2), (3, .inl a3)]) rfl ?_
  rw [fc_T_voice] at h
  refine zg_aload_n dd_111_0 rfl (j := 0) rfl ?_
  refine zg_getR dd_111_1 zl_T_12 zCs_0 rfl zCr_0_0 ?_
  refine zg_getR dd_111_4 zl_T_199 zCs_1 rfl zCr_1_1 ?_
  refine zg_astore dd_111_7 (Nat.le_of_ble_eq_true rfl) (lv' := [(4, .inr (.inr (some 7))), (0, .inr (.inr (some 0))), (1, .inl a1), (2, .inl a2), (3, .inl a3)]) rfl ?_
  refine zg_aload dd_111_9 (j := 0) rfl ?_
  refine zg_iload_n dd_111_11 rfl (j := 2) rfl ?_
  obtain ⟨r1, e2, h⟩ := z_bd h
  refine zg_invV_i (av := [.inl a1]) (st := []) (n := 1) dd_111_12 ca_68 zw_711 zw_712 zw_713 zCs_7 zcl_8 rfl (mt_fc_Walks_has e2) rfl ⟨by decide +kernel, by decide⟩ (Nat.le_of_ble_eq_true rfl) ?_
  refine zg_if_eq (tgt := 27) dd_111_15 (by decide) (fun q3 => ?_) (fun q3 => ?_)
  · replace h := z_t h q3
    refine zg_aload_n dd_111_27 rfl (j := 1) rfl ?_
    refine zg_iconst dd_111_28 kI_1 ?_
    obtain ⟨r4, e5, h⟩ := z_bd h
    refine zg_invV_i (av := [.inl (1 : Int32)]) (st := []) (n := 1) dd_111_29 ca_2 zw_430 zw_432 zv_0 zCs_0 zcl_11 rfl (mt_fc_T_refuse e5) rfl ⟨by decide +kernel, by decide⟩ (Nat.le_of_ble_eq_true rfl) ?_
    obtain rfl := Option.some.inj h
    exact zg_iret dd_111_32 rfl
  · replace h := z_f h q3
    refine zg_iload_n dd_111_18 rfl (j := 3) rfl ?_
    refine zg_iconst dd_111_19 kI_0 ?_
    refine zg_iconst dd_111_20 kI_3 ?_
    obtain ⟨r6, e7, h⟩ := z_bd h
    refine zg_invS_i (av := [.inl a2, .inl (0 : Int32), .inl (3 : Int32)]) (st := []) (n := 3) dd_111_21 ca_1 zw_427 zw_428 (mt_fc_T_within e7) rfl ⟨by decide +kernel, by decide⟩ (Nat.le_of_ble_eq_true rfl) ?_
    refine zg_if_ne (tgt := 33) dd_111_24 (by decide) (fun q8 => ?_) (fun q8 => ?_)
    · replace h := z_f h q8
      refine zg_aload_n dd_111_33 rfl (j := 1) rfl ?_
      refine zg_getR dd_111_34 zl_T_72 zCs_0 rfl zCr_0_12 ?_
      refine zg_aload dd_111_37 (j := 0) rfl ?_
      refine zg_getR dd_111_39 zl_T_217 zCs_7 rfl zCr_7_1 ?_
      refine zg_iload_n dd_111_42 rfl (j := 2) rfl ?_
      obtain ⟨g9, h⟩ := z_gd h
      refine zg_iald (w := (I 8 a1.toNatClampNeg)) dd_111_43 zCs_8 g9 rfl ?_
      refine zg_iload_n dd_111_44 rfl (j := 2) rfl ?_
      refine zg_aload dd_111_45 (j := 0) rfl ?_
      refine zg_getR dd_111_47 zl_T_223 zCs_7 rfl zCr_7_3 ?_
      refine zg_iload_n dd_111_50 rfl (j := 2) rfl ?_
      refine zg_iald (w := (I 10 a1.toNatClampNeg)) dd_111_51 zCs_10 g9 rfl ?_
      refine zg_iload_n dd_111_52 rfl (j := 3) rfl ?_
      refine zg_iload_n dd_111_53 rfl (j := 4) rfl ?_
      obtain ⟨r10, e11, h⟩ := z_bd h
      refine zg_invV_i (av := [.inl (I 8 a1.toNatClampNeg), .inl a1, .inl (I 10 a1.toNatClampNeg), .inl a2, .inl a3]) (st := []) (n := 5) dd_111_54 ca_112 zw_903 zw_904 zw_905 zCs_184 zcl_6 rfl (mt_fc_Voices_speak e11) rfl ⟨by decide +kernel, by decide⟩ (Nat.le_of_ble_eq_true rfl) ?_
      refine zg_istore dd_111_57 (Nat.le_of_ble_eq_true rfl) (lv' := [(5, .inl r10.1), (4, .inr (.inr (some 7))), (0, .inr (.inr (some 0))), (1, .inl a1), (2, .inl a2), (3, .inl a3)]) rfl ?_
      refine zg_aload_n dd_111_59 rfl (j := 2) rfl ?_
      refine zg_getR dd_111_60 zl_T_72 zCs_0 rfl zCr_0_12 ?_
      refine zg_getI (x := (r10.2 184 2)) dd_111_63 zl_T_338 zCs_184 rfl rfl ?_
      refine zg_if_eq (tgt := 78) dd_111_66 (by decide) (fun q12 => ?_) (fun q12 => ?_)
      · replace h := z_t h q12
        refine zg_iload dd_111_78 (j := 0) rfl ?_
        obtain rfl := Option.some.inj h
        exact zg_iret dd_111_80 rfl
      · replace h := z_f h q12
        refine zg_aload_n dd_111_69 rfl (j := 2) rfl ?_
        refine zg_bipush dd_111_70 kB_6 ?_
        obtain ⟨r13, e14, h⟩ := z_bd h
        refine zg_invV_i (av := [.inl (6 : Int32)]) (st := []) (n := 1) dd_111_72 ca_2 zw_430 zw_432 zv_0 zCs_0 zcl_11 rfl (mt_fc_T_refuse e14) rfl ⟨by decide +kernel, by decide⟩ (Nat.le_of_ble_eq_true rfl) ?_
        refine zg_goto (tgt := 80) dd_111_75 (by decide) ?_
        obtain rfl := Option.some.inj h
        exact zg_iret dd_111_80 rfl
    · replace h := z_t h q8
      refine zg_aload_n dd_111_27 rfl (j := 1) rfl ?_
      refine zg_iconst dd_111_28 kI_1 ?_
      obtain ⟨r15, e16, h⟩ := z_bd h
      refine zg_invV_i (av := [.inl (1 : Int32)]) (st := []) (n := 1) dd_111_29 ca_2 zw_430 zw_432 zv_0 zCs_0 zcl_11 rfl (mt_fc_T_refuse e16) rfl ⟨by decide +kernel, by decide⟩ (Nat.le_of_ble_eq_true rfl) ?_
      obtain rfl := Option.some.inj h
      exact zg_iret dd_111_32 rfl
/-! TurnedLand.body(0, None) -/
def fc_T_body (I : zI) (a1 : Int32) : Option (Int32 × zI) :=
  (fc_T_within I a1 (0 : Int32) ((I 184 1) - (1 : Int32))).bind fun r1 =>
  if r1 = 0 then
    (fc_T_refuse I (2 : Int32)).bind fun r5 =>
    some (r5.1, r5.2)
  else
    z_guard (zb a1 30) <|
    some ((I 185 a1.toNatClampNeg), I)
set_option maxRecDepth 20000 in
theorem mt_fc_T_body {I : zI} {a1 : Int32} {res : (Int32 × zI)} (h : fc_T_body I a1 = some res) : zM 3 ym_119 [.inr (.inr (some 0)), .inl a1] (zCs, zCr, I) (some (.inl res.1)) (zCs, zCr, res.2) 0 0 := by
  refine zM_of (by decide) (Nat.le_of_ble_eq_true rfl) (lv := [(0, .inr (.inr (some 0))), (1, .inl a1)]) rfl ?_
  rw [fc_T_body] at h
  refine zg_iload_n dd_119_0 rfl (j := 1) rfl ?_
  refine zg_iconst dd_119_1 kI_0 ?_
  refine zg_aload_n dd_119_2 rfl (j := 0) rfl ?_
  refine zg_getR dd_119_3 zl_T_72 zCs_0 rfl zCr_0_12 ?_
  refine zg_getI (x := (I 184 1)) dd_119_6 zl_T_341 zCs_184 rfl rfl ?_
  refine zg_iconst dd_119_9 kI_1 ?_
  refine zg_isub dd_119_10 ?_
  obtain ⟨r1, e2, h⟩ := z_bd h
  refine zg_invS_i (av := [.inl a1, .inl (0 : Int32), .inl ((I 184 1) - (1 : Int32))]) (st := []) (n := 3) dd_119_11 ca_1 zw_427 zw_428 (mt_fc_T_within e2) rfl ⟨by decide +kernel, by decide⟩ (Nat.le_of_ble_eq_true rfl) ?_
  refine zg_if_ne (tgt := 23) dd_119_14 (by decide) (fun q3 => ?_) (fun q3 => ?_)
  · replace h := z_f h q3
    refine zg_aload_n dd_119_23 rfl (j := 0) rfl ?_
    refine zg_getR dd_119_24 zl_T_72 zCs_0 rfl zCr_0_12 ?_
    refine zg_getR dd_119_27 zl_T_344 zCs_184 rfl zCr_184_0 ?_
    refine zg_iload_n dd_119_30 rfl (j := 1) rfl ?_
    obtain ⟨g4, h⟩ := z_gd h
    refine zg_iald (w := (I 185 a1.toNatClampNeg)) dd_119_31 zCs_185 g4 rfl ?_
    obtain rfl := Option.some.inj h
    exact zg_iret dd_119_32 rfl
  · replace h := z_t h q3
    refine zg_aload_n dd_119_17 rfl (j := 0) rfl ?_
    refine zg_iconst dd_119_18 kI_2 ?_
    obtain ⟨r5, e6, h⟩ := z_bd h
    refine zg_invV_i (av := [.inl (2 : Int32)]) (st := []) (n := 1) dd_119_19 ca_2 zw_430 zw_432 zv_0 zCs_0 zcl_11 rfl (mt_fc_T_refuse e6) rfl ⟨by decide +kernel, by decide⟩ (Nat.le_of_ble_eq_true rfl) ?_
    obtain rfl := Option.some.inj h
    exact zg_iret dd_119_22 rfl
/-! TurnedLand.isSheet[None] -/
def fc_T_isSheet (I : zI) (a0 : Int32) : Option Int32 :=
  (fc_T_within I a0 (0 : Int32) (3 : Int32)).bind fun r1 =>
  z_guard (zbb r1) <|
  some r1
set_option maxRecDepth 20000 in
theorem mt_fc_T_isSheet {I : zI} {a0 : Int32} {res : Int32} (h : fc_T_isSheet I a0 = some res) : zM 2 ym_121 [.inl a0] (zCs, zCr, I) (some (.inl res)) (zCs, zCr, I) 0 0 := by
  refine zM_of (by decide) (Nat.le_of_ble_eq_true rfl) (lv := [(0, .inl a0)]) rfl ?_
  rw [fc_T_isSheet] at h
  refine zg_iload_n dd_121_0 rfl (j := 0) rfl ?_
  refine zg_iconst dd_121_1 kI_0 ?_
  refine zg_iconst dd_121_2 kI_3 ?_
  obtain ⟨r1, e2, h⟩ := z_bd h
  refine zg_invS_i (av := [.inl a0, .inl (0 : Int32), .inl (3 : Int32)]) (st := []) (n := 3) dd_121_3 ca_1 zw_427 zw_428 (mt_fc_T_within e2) rfl ⟨by decide +kernel, by decide⟩ (Nat.le_of_ble_eq_true rfl) ?_
  obtain ⟨g3, h⟩ := z_gd h
  obtain rfl := Option.some.inj h
  exact zg_zret dd_121_6 rfl (zSt_bb g3).1
/-! TurnedLand.sheet(0, None, None, None) -/
def fc_T_sheet_J61 (I : zI) (v1 : Int32) (v2 : Int32) (v3 : Int32) : Option (Int32 × zI) :=
  if v2 = 0 then
    z_guard (zb v1 4) <|
    if v2 = 0 then
      some ((1 : Int32), (zfill (zup (zup I 94 v1.toNatClampNeg v2) 95 v1.toNatClampNeg (0 : Int32)) (97 + v1.toNatClampNeg) 24 (0 : Int32)))
    else
      some ((1 : Int32), (zfill (zup (zup I 94 v1.toNatClampNeg v2) 95 v1.toNatClampNeg v3) (97 + v1.toNatClampNeg) 24 (0 : Int32)))
  else
    if v3 ≤ (24 : Int32) then
      z_guard (zb v1 4) <|
      if v2 = 0 then
        some ((1 : Int32), (zfill (zup (zup I 94 v1.toNatClampNeg v2) 95 v1.toNatClampNeg (0 : Int32)) (97 + v1.toNatClampNeg) 24 (0 : Int32)))
      else
        some ((1 : Int32), (zfill (zup (zup I 94 v1.toNatClampNeg v2) 95 v1.toNatClampNeg v3) (97 + v1.toNatClampNeg) 24 (0 : Int32)))
    else
      (fc_T_refuse I (1 : Int32)).bind fun r15 =>
      some (r15.1, r15.2)
def fc_T_sheet_J27 (I : zI) (v1 : Int32) (v2 : Int32) (v3 : Int32) (x0 : Int32) : Option (Int32 × zI) :=
  (fc_T_isSheet I v1).bind fun r2 =>
  if r2 = 0 then
    (fc_T_refuse I (1 : Int32)).bind fun r5 =>
    some (r5.1, r5.2)
  else
    if x0 = 0 then
      (fc_T_refuse I (1 : Int32)).bind fun r20 =>
      some (r20.1, r20.2)
    else
      if v2 = 0 then
        fc_T_sheet_J61 I v1 v2 v3
      else
        if 0 ≤ v3 then
          fc_T_sheet_J61 I v1 v2 v3
        else
          (fc_T_refuse I (3 : Int32)).bind fun r18 =>
          some (r18.1, r18.2)
def fc_T_sheet_J22 (I : zI) (v1 : Int32) (v2 : Int32) (v3 : Int32) : Option (Int32 × zI) :=
  fc_T_sheet_J27 I v1 v2 v3 (1 : Int32)
def fc_T_sheet (I : zI) (a1 : Int32) (a2 : Int32) (a3 : Int32) : Option (Int32 × zI) :=
  if a2 = 0 then
    fc_T_sheet_J22 I a1 a2 a3
  else
    if a2 = (8 : Int32) then
      fc_T_sheet_J22 I a1 a2 a3
    else
      if a2 = (16 : Int32) then
        fc_T_sheet_J22 I a1 a2 a3
      else
        if a2 = (32 : Int32) then
          fc_T_sheet_J22 I a1 a2 a3
        else
          fc_T_sheet_J27 I a1 a2 a3 (0 : Int32)
set_option maxRecDepth 20000 in
theorem jt_fc_T_sheet_J61 {res : (Int32 × zI)} {I : zI} {v1 : Int32} {v2 : Int32} {v3 : Int32} (h : fc_T_sheet_J61 I v1 v2 v3 = some res) : zG 3 ym_120 0 0 (some (.inl res.1)) (zCs, zCr, res.2) zCs.length 61 [(0, .inr (.inr (some 0))), (1, .inl v1), (2, .inl v2), (3, .inl v3)] [] (zCs, zCr, I) 0 0 := by
  rw [fc_T_sheet_J61] at h
  refine zg_iload_n dd_120_61 rfl (j := 2) rfl ?_
  refine zg_if_eq (tgt := 77) dd_120_62 (by decide) (fun q9 => ?_) (fun q9 => ?_)
  · replace h := z_t h q9
    refine zg_aload_n dd_120_77 rfl (j := 0) rfl ?_
    refine zg_getR dd_120_78 zl_T_27 zCs_0 rfl zCr_0_4 ?_
    refine zg_iload_n dd_120_81 rfl (j := 1) rfl ?_
    refine zg_iload_n dd_120_82 rfl (j := 2) rfl ?_
    obtain ⟨g10, h⟩ := z_gd h
    refine zg_iast dd_120_83 zCs_94 g10 ?_
    refine zg_aload_n dd_120_84 rfl (j := 0) rfl ?_
    refine zg_getR dd_120_85 zl_T_30 zCs_0 rfl zCr_0_5 ?_
    refine zg_iload_n dd_120_88 rfl (j := 1) rfl ?_
    refine zg_iload_n dd_120_89 rfl (j := 2) rfl ?_
    refine zg_if_ne (tgt := 97) dd_120_90 (by decide) (fun q11 => ?_) (fun q11 => ?_)
    · replace h := z_f h q11
      refine zg_iload_n dd_120_97 rfl (j := 3) rfl ?_
      refine zg_iast dd_120_98 zCs_95 g10 ?_
      refine zg_aload_n dd_120_99 rfl (j := 0) rfl ?_
      refine zg_getR dd_120_100 zl_T_35 zCs_0 rfl zCr_0_6 ?_
      refine zg_iload_n dd_120_103 rfl (j := 1) rfl ?_
      refine zg_aald1 dd_120_104 zCs_96 g10 (zrR_C_96 g10) ?_
      refine zg_iconst dd_120_105 kI_0 ?_
      refine zg_invS_v (av := [.inr (.inr (some (97 + v1.toNatClampNeg))), .inl (0 : Int32)]) (st := []) (n := 2) dd_120_106 ca_28 zw_946 zw_43 (mt_fill (zrS_C_96 g10) (Nat.le_of_ble_eq_true rfl)) rfl ⟨by decide +kernel, by decide⟩ (Nat.le_of_ble_eq_true rfl) ?_
      refine zg_iconst dd_120_109 kI_1 ?_
      obtain rfl := Option.some.inj h
      exact zg_iret dd_120_110 rfl
    · replace h := z_t h q11
      refine zg_iconst dd_120_93 kI_0 ?_
      refine zg_goto (tgt := 98) dd_120_94 (by decide) ?_
      refine zg_iast dd_120_98 zCs_95 g10 ?_
      refine zg_aload_n dd_120_99 rfl (j := 0) rfl ?_
      refine zg_getR dd_120_100 zl_T_35 zCs_0 rfl zCr_0_6 ?_
      refine zg_iload_n dd_120_103 rfl (j := 1) rfl ?_
      refine zg_aald1 dd_120_104 zCs_96 g10 (zrR_C_96 g10) ?_
      refine zg_iconst dd_120_105 kI_0 ?_
      refine zg_invS_v (av := [.inr (.inr (some (97 + v1.toNatClampNeg))), .inl (0 : Int32)]) (st := []) (n := 2) dd_120_106 ca_28 zw_946 zw_43 (mt_fill (zrS_C_96 g10) (Nat.le_of_ble_eq_true rfl)) rfl ⟨by decide +kernel, by decide⟩ (Nat.le_of_ble_eq_true rfl) ?_
      refine zg_iconst dd_120_109 kI_1 ?_
      obtain rfl := Option.some.inj h
      exact zg_iret dd_120_110 rfl
  · replace h := z_f h q9
    refine zg_iload_n dd_120_65 rfl (j := 3) rfl ?_
    refine zg_bipush dd_120_66 kB_24 ?_
    refine zg_icmp_le (tgt := 77) dd_120_68 (by decide) (fun q12 => ?_) (fun q12 => ?_)
    · replace h := z_t h q12
      refine zg_aload_n dd_120_77 rfl (j := 0) rfl ?_
      refine zg_getR dd_120_78 zl_T_27 zCs_0 rfl zCr_0_4 ?_
      refine zg_iload_n dd_120_81 rfl (j := 1) rfl ?_
      refine zg_iload_n dd_120_82 rfl (j := 2) rfl ?_
      obtain ⟨g13, h⟩ := z_gd h
      refine zg_iast dd_120_83 zCs_94 g13 ?_
      refine zg_aload_n dd_120_84 rfl (j := 0) rfl ?_
      refine zg_getR dd_120_85 zl_T_30 zCs_0 rfl zCr_0_5 ?_
      refine zg_iload_n dd_120_88 rfl (j := 1) rfl ?_
      refine zg_iload_n dd_120_89 rfl (j := 2) rfl ?_
      refine zg_if_ne (tgt := 97) dd_120_90 (by decide) (fun q14 => ?_) (fun q14 => ?_)
      · replace h := z_f h q14
        refine zg_iload_n dd_120_97 rfl (j := 3) rfl ?_
        refine zg_iast dd_120_98 zCs_95 g13 ?_
        refine zg_aload_n dd_120_99 rfl (j := 0) rfl ?_
        refine zg_getR dd_120_100 zl_T_35 zCs_0 rfl zCr_0_6 ?_
        refine zg_iload_n dd_120_103 rfl (j := 1) rfl ?_
        refine zg_aald1 dd_120_104 zCs_96 g13 (zrR_C_96 g13) ?_
        refine zg_iconst dd_120_105 kI_0 ?_
        refine zg_invS_v (av := [.inr (.inr (some (97 + v1.toNatClampNeg))), .inl (0 : Int32)]) (st := []) (n := 2) dd_120_106 ca_28 zw_946 zw_43 (mt_fill (zrS_C_96 g13) (Nat.le_of_ble_eq_true rfl)) rfl ⟨by decide +kernel, by decide⟩ (Nat.le_of_ble_eq_true rfl) ?_
        refine zg_iconst dd_120_109 kI_1 ?_
        obtain rfl := Option.some.inj h
        exact zg_iret dd_120_110 rfl
      · replace h := z_t h q14
        refine zg_iconst dd_120_93 kI_0 ?_
        refine zg_goto (tgt := 98) dd_120_94 (by decide) ?_
        refine zg_iast dd_120_98 zCs_95 g13 ?_
        refine zg_aload_n dd_120_99 rfl (j := 0) rfl ?_
        refine zg_getR dd_120_100 zl_T_35 zCs_0 rfl zCr_0_6 ?_
        refine zg_iload_n dd_120_103 rfl (j := 1) rfl ?_
        refine zg_aald1 dd_120_104 zCs_96 g13 (zrR_C_96 g13) ?_
        refine zg_iconst dd_120_105 kI_0 ?_
        refine zg_invS_v (av := [.inr (.inr (some (97 + v1.toNatClampNeg))), .inl (0 : Int32)]) (st := []) (n := 2) dd_120_106 ca_28 zw_946 zw_43 (mt_fill (zrS_C_96 g13) (Nat.le_of_ble_eq_true rfl)) rfl ⟨by decide +kernel, by decide⟩ (Nat.le_of_ble_eq_true rfl) ?_
        refine zg_iconst dd_120_109 kI_1 ?_
        obtain rfl := Option.some.inj h
        exact zg_iret dd_120_110 rfl
    · replace h := z_f h q12
      refine zg_aload_n dd_120_71 rfl (j := 0) rfl ?_
      refine zg_iconst dd_120_72 kI_1 ?_
      obtain ⟨r15, e16, h⟩ := z_bd h
      refine zg_invV_i (av := [.inl (1 : Int32)]) (st := []) (n := 1) dd_120_73 ca_2 zw_430 zw_432 zv_0 zCs_0 zcl_11 rfl (mt_fc_T_refuse e16) rfl ⟨by decide +kernel, by decide⟩ (Nat.le_of_ble_eq_true rfl) ?_
      obtain rfl := Option.some.inj h
      exact zg_iret dd_120_76 rfl
set_option maxRecDepth 20000 in
theorem jt_fc_T_sheet_J27 {res : (Int32 × zI)} {I : zI} {v1 : Int32} {v2 : Int32} {v3 : Int32} {x0 : Int32} (h : fc_T_sheet_J27 I v1 v2 v3 x0 = some res) : zG 3 ym_120 0 0 (some (.inl res.1)) (zCs, zCr, res.2) zCs.length 27 [(0, .inr (.inr (some 0))), (1, .inl v1), (2, .inl v2), (3, .inl v3)] [.inl x0] (zCs, zCr, I) 0 0 := by
  rw [fc_T_sheet_J27] at h
  refine zg_istore dd_120_27 (Nat.le_of_ble_eq_true rfl) (lv' := [(4, .inl x0), (0, .inr (.inr (some 0))), (1, .inl v1), (2, .inl v2), (3, .inl v3)]) rfl ?_
  refine zg_iload_n dd_120_29 rfl (j := 2) rfl ?_
  obtain ⟨r2, e3, h⟩ := z_bd h
  refine zg_invS_i (av := [.inl v1]) (st := []) (n := 1) dd_120_30 ca_121 zw_943 zw_944 (mt_fc_T_isSheet e3) rfl ⟨by decide +kernel, by decide⟩ (Nat.le_of_ble_eq_true rfl) ?_
  refine zg_if_eq (tgt := 41) dd_120_33 (by decide) (fun q4 => ?_) (fun q4 => ?_)
  · replace h := z_t h q4
    refine zg_aload_n dd_120_41 rfl (j := 1) rfl ?_
    refine zg_iconst dd_120_42 kI_1 ?_
    obtain ⟨r5, e6, h⟩ := z_bd h
    refine zg_invV_i (av := [.inl (1 : Int32)]) (st := []) (n := 1) dd_120_43 ca_2 zw_430 zw_432 zv_0 zCs_0 zcl_11 rfl (mt_fc_T_refuse e6) rfl ⟨by decide +kernel, by decide⟩ (Nat.le_of_ble_eq_true rfl) ?_
    obtain rfl := Option.some.inj h
    exact zg_iret dd_120_46 rfl
  · replace h := z_f h q4
    refine zg_iload dd_120_36 (j := 0) rfl ?_
    refine zg_if_ne (tgt := 47) dd_120_38 (by decide) (fun q7 => ?_) (fun q7 => ?_)
    · replace h := z_f h q7
      refine zg_iload_n dd_120_47 rfl (j := 3) rfl ?_
      refine zg_if_eq (tgt := 61) dd_120_48 (by decide) (fun q8 => ?_) (fun q8 => ?_)
      · replace h := z_t h q8
        refine zg_sub [1, 2, 3, 4] rfl ?_
        exact jt_fc_T_sheet_J61 h
      · replace h := z_f h q8
        refine zg_iload_n dd_120_51 rfl (j := 4) rfl ?_
        refine zg_if_ge (tgt := 61) dd_120_52 (by decide) (fun q17 => ?_) (fun q17 => ?_)
        · replace h := z_t h q17
          refine zg_sub [1, 2, 3, 4] rfl ?_
          exact jt_fc_T_sheet_J61 h
        · replace h := z_f h q17
          refine zg_aload_n dd_120_55 rfl (j := 1) rfl ?_
          refine zg_iconst dd_120_56 kI_3 ?_
          obtain ⟨r18, e19, h⟩ := z_bd h
          refine zg_invV_i (av := [.inl (3 : Int32)]) (st := []) (n := 1) dd_120_57 ca_2 zw_430 zw_432 zv_0 zCs_0 zcl_11 rfl (mt_fc_T_refuse e19) rfl ⟨by decide +kernel, by decide⟩ (Nat.le_of_ble_eq_true rfl) ?_
          obtain rfl := Option.some.inj h
          exact zg_iret dd_120_60 rfl
    · replace h := z_t h q7
      refine zg_aload_n dd_120_41 rfl (j := 1) rfl ?_
      refine zg_iconst dd_120_42 kI_1 ?_
      obtain ⟨r20, e21, h⟩ := z_bd h
      refine zg_invV_i (av := [.inl (1 : Int32)]) (st := []) (n := 1) dd_120_43 ca_2 zw_430 zw_432 zv_0 zCs_0 zcl_11 rfl (mt_fc_T_refuse e21) rfl ⟨by decide +kernel, by decide⟩ (Nat.le_of_ble_eq_true rfl) ?_
      obtain rfl := Option.some.inj h
      exact zg_iret dd_120_46 rfl
set_option maxRecDepth 20000 in
theorem jt_fc_T_sheet_J22 {res : (Int32 × zI)} {I : zI} {v1 : Int32} {v2 : Int32} {v3 : Int32} (h : fc_T_sheet_J22 I v1 v2 v3 = some res) : zG 3 ym_120 0 0 (some (.inl res.1)) (zCs, zCr, res.2) zCs.length 22 [(0, .inr (.inr (some 0))), (1, .inl v1), (2, .inl v2), (3, .inl v3)] [] (zCs, zCr, I) 0 0 := by
  rw [fc_T_sheet_J22] at h
  refine zg_iconst dd_120_22 kI_1 ?_
  refine zg_goto (tgt := 27) dd_120_23 (by decide) ?_
  refine zg_sub [0, 1, 2, 3] rfl ?_
  exact jt_fc_T_sheet_J27 h
set_option maxRecDepth 20000 in
theorem mt_fc_T_sheet {I : zI} {a1 : Int32} {a2 : Int32} {a3 : Int32} {res : (Int32 × zI)} (h : fc_T_sheet I a1 a2 a3 = some res) : zM 3 ym_120 [.inr (.inr (some 0)), .inl a1, .inl a2, .inl a3] (zCs, zCr, I) (some (.inl res.1)) (zCs, zCr, res.2) 0 0 := by
  refine zM_of (by decide) (Nat.le_of_ble_eq_true rfl) (lv := [(0, .inr (.inr (some 0))), (1, .inl a1), (2, .inl a2), (3, .inl a3)]) rfl ?_
  rw [fc_T_sheet] at h
  refine zg_iload_n dd_120_0 rfl (j := 2) rfl ?_
  refine zg_if_eq (tgt := 22) dd_120_1 (by decide) (fun q1 => ?_) (fun q1 => ?_)
  · replace h := z_t h q1
    refine zg_sub [0, 1, 2, 3] rfl ?_
    exact jt_fc_T_sheet_J22 h
  · replace h := z_f h q1
    refine zg_iload_n dd_120_4 rfl (j := 2) rfl ?_
    refine zg_bipush dd_120_5 kB_8 ?_
    refine zg_icmp_eq (tgt := 22) dd_120_7 (by decide) (fun q22 => ?_) (fun q22 => ?_)
    · replace h := z_t h q22
      refine zg_sub [0, 1, 2, 3] rfl ?_
      exact jt_fc_T_sheet_J22 h
    · replace h := z_f h q22
      refine zg_iload_n dd_120_10 rfl (j := 2) rfl ?_
      refine zg_bipush dd_120_11 kB_16 ?_
      refine zg_icmp_eq (tgt := 22) dd_120_13 (by decide) (fun q23 => ?_) (fun q23 => ?_)
      · replace h := z_t h q23
        refine zg_sub [0, 1, 2, 3] rfl ?_
        exact jt_fc_T_sheet_J22 h
      · replace h := z_f h q23
        refine zg_iload_n dd_120_16 rfl (j := 2) rfl ?_
        refine zg_bipush dd_120_17 kB_32 ?_
        refine zg_icmp_ne (tgt := 26) dd_120_19 (by decide) (fun q24 => ?_) (fun q24 => ?_)
        · replace h := z_f h q24
          refine zg_iconst dd_120_26 kI_0 ?_
          refine zg_sub [0, 1, 2, 3] rfl ?_
          exact jt_fc_T_sheet_J27 h
        · replace h := z_t h q24
          refine zg_sub [0, 1, 2, 3] rfl ?_
          exact jt_fc_T_sheet_J22 h
