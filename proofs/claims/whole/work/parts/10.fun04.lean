/-! TurnedLand$Ways.spread[141, None] -/
def fc_Ways_spread_2_L70 (k152 : Int32 → Int32 → Int32 → zI → Option zI) : Nat → Int32 → Int32 → Int32 → Int32 → Int32 → zI → Option zI
  | 0, _, _, _, _, _, _ => none
  | nf + 1, v1, v2, v3, v4, v5, I =>
    if (4 : Int32) ≤ v5 then
      k152 v1 v2 v3 I
    else
      if v4 = v1 then
        z_guard (zb v4 16) <|
        z_guard (zb v5 4) <|
        if (I (145 + v4.toNatClampNeg) v5.toNatClampNeg) = (-1 : Int32) then
          fc_Ways_spread_2_L70 k152 nf v1 v2 v3 v4 (v5 + (1 : Int32)) I
        else
          (fc_Ways_comeTo_2 I (I (145 + v4.toNatClampNeg) v5.toNatClampNeg) ((I 142 v4.toNatClampNeg) + (I (162 + v4.toNatClampNeg) v5.toNatClampNeg)) ((1 : Int32) <<< (v5 &&& 31))).bind fun r16 =>
          fc_Ways_spread_2_L70 k152 nf v1 v2 v3 v4 (v5 + (1 : Int32)) r16
      else
        z_guard (zb v4 16) <|
        z_guard (zb v5 4) <|
        if (I (145 + v4.toNatClampNeg) v5.toNatClampNeg) = (-1 : Int32) then
          fc_Ways_spread_2_L70 k152 nf v1 v2 v3 v4 (v5 + (1 : Int32)) I
        else
          (fc_Ways_comeTo_2 I (I (145 + v4.toNatClampNeg) v5.toNatClampNeg) ((I 142 v4.toNatClampNeg) + (I (162 + v4.toNatClampNeg) v5.toNatClampNeg)) (I 143 v4.toNatClampNeg)).bind fun r11 =>
          fc_Ways_spread_2_L70 k152 nf v1 v2 v3 v4 (v5 + (1 : Int32)) r11
def fc_Ways_spread_2_L34 : Nat → Int32 → Int32 → Int32 → zI → Option zI
  | 0, _, _, _, _ => none
  | nf + 1, v1, v2, v3, I =>
    if (I 141 4) ≤ v3 then
      some I
    else
      (fc_Ways_nearest_2 I v2).bind fun r3 =>
      if r3 = (-1 : Int32) then
        some I
      else
        fc_Ways_spread_2_L70
          (fun (u18 : Int32) (u19 : Int32) (u20 : Int32) (J21 : zI) =>
            fc_Ways_spread_2_L34 nf u18 u19 (u20 + (1 : Int32)) J21
          )
          100 v1 (v2 &&& (((1 : Int32) <<< (r3 &&& 31)) ^^^ (-1 : Int32))) v3 r3 (0 : Int32) I
def fc_Ways_spread_2 (I : zI) (a1 : Int32) : Option zI :=
  z_guard (zb a1 16) <|
  fc_Ways_spread_2_L34
    100 a1 (((1 : Int32) <<< (((zfill (zfill I 142 16 (-1 : Int32)) 143 16 (0 : Int32)) 141 4) &&& 31)) - (1 : Int32)) (0 : Int32) (zup (zfill (zfill I 142 16 (-1 : Int32)) 143 16 (0 : Int32)) 142 a1.toNatClampNeg (0 : Int32))
set_option maxRecDepth 20000 in
theorem lt_fc_Ways_spread_2_L70 {res : zI} {k152 : Int32 → Int32 → Int32 → zI → Option zI} (hk152 : ∀ (v1 : Int32) (v2 : Int32) (v3 : Int32) (J : zI), k152 v1 v2 v3 J = some res → zG 2 ym_59 0 0 none (zCs, zCr, res) zCs.length 152 [(0, .inr (.inr (some 141))), (1, .inl v1), (2, .inl v2), (3, .inl v3)] [] (zCs, zCr, J) 0 0) : ∀ (nf : Nat) (v1 : Int32) (v2 : Int32) (v3 : Int32) (v4 : Int32) (v5 : Int32) (I : zI), fc_Ways_spread_2_L70 k152 nf v1 v2 v3 v4 v5 I = some res → zG 2 ym_59 0 0 none (zCs, zCr, res) zCs.length 70 [(0, .inr (.inr (some 141))), (1, .inl v1), (2, .inl v2), (3, .inl v3), (4, .inl v4), (5, .inl v5)] [] (zCs, zCr, I) 0 0 := by
  intro nf
  induction nf with
  | zero =>
    intro v1 v2 v3 v4 v5 I h
    have h2 : none = some res := h
    cases h2
  | succ nf ih =>
    intro v1 v2 v3 v4 v5 I h
    rw [fc_Ways_spread_2_L70] at h
    refine zg_iload dd_59_70 (j := 5) rfl ?_
    refine zg_iconst dd_59_72 kI_4 ?_
    refine zg_icmp_ge (tgt := 152) dd_59_73 (by decide) (fun q6 => ?_) (fun q6 => ?_)
    · replace h := z_t h q6
      refine zg_sub [0, 1, 2, 3] rfl ?_
      exact hk152 _ _ _ _ h
    · replace h := z_f h q6
      refine zg_iload dd_59_76 (j := 4) rfl ?_
      refine zg_iload_n dd_59_78 rfl (j := 1) rfl ?_
      refine zg_icmp_ne (tgt := 89) dd_59_79 (by decide) (fun q7 => ?_) (fun q7 => ?_)
      · replace h := z_f h q7
        refine zg_aload_n dd_59_89 rfl (j := 0) rfl ?_
        refine zg_getR dd_59_90 zl_Ways_15 zCs_141 rfl zCr_141_1 ?_
        refine zg_iload dd_59_93 (j := 4) rfl ?_
        obtain ⟨g8, h⟩ := z_gd h
        refine zg_iald (w := (I 143 v4.toNatClampNeg)) dd_59_95 zCs_143 g8 rfl ?_
        refine zg_istore dd_59_96 (Nat.le_of_ble_eq_true rfl) (lv' := [(6, .inl (I 143 v4.toNatClampNeg)), (0, .inr (.inr (some 141))), (1, .inl v1), (2, .inl v2), (3, .inl v3), (4, .inl v4), (5, .inl v5)]) rfl ?_
        refine zg_aload_n dd_59_98 rfl (j := 1) rfl ?_
        refine zg_getR dd_59_99 zl_Ways_20 zCs_141 rfl zCr_141_2 ?_
        refine zg_iload dd_59_102 (j := 5) rfl ?_
        refine zg_aald1 dd_59_104 zCs_144 g8 (zrR_C_144 g8) ?_
        refine zg_iload dd_59_105 (j := 6) rfl ?_
        obtain ⟨g9, h⟩ := z_gd h
        refine zg_iald (w := (I (145 + v4.toNatClampNeg) v5.toNatClampNeg)) dd_59_107 (zrS_C_144 g8) g9 rfl ?_
        refine zg_iconst dd_59_108 kI_m1 ?_
        refine zg_icmp_eq (tgt := 146) dd_59_109 (by decide) (fun q10 => ?_) (fun q10 => ?_)
        · replace h := z_t h q10
          refine zg_iinc dd_59_146 (j := 6) rfl (v := (v5 + (1 : Int32))) (by rw [kI_1]) (Nat.le_of_ble_eq_true rfl) (lv' := [(5, .inl (v5 + (1 : Int32))), (6, .inl (I 143 v4.toNatClampNeg)), (0, .inr (.inr (some 141))), (1, .inl v1), (2, .inl v2), (3, .inl v3), (4, .inl v4)]) rfl ?_
          refine zg_goto (tgt := 70) dd_59_149 (by decide) ?_
          refine zg_sub [2, 3, 4, 5, 6, 0] rfl ?_
          exact ih _ _ _ _ _ _ h
        · replace h := z_f h q10
          refine zg_aload_n dd_59_112 rfl (j := 1) rfl ?_
          refine zg_aload_n dd_59_113 rfl (j := 1) rfl ?_
          refine zg_getR dd_59_114 zl_Ways_20 zCs_141 rfl zCr_141_2 ?_
          refine zg_iload dd_59_117 (j := 5) rfl ?_
          refine zg_aald1 dd_59_119 zCs_144 g8 (zrR_C_144 g8) ?_
          refine zg_iload dd_59_120 (j := 6) rfl ?_
          refine zg_iald (w := (I (145 + v4.toNatClampNeg) v5.toNatClampNeg)) dd_59_122 (zrS_C_144 g8) g9 rfl ?_
          refine zg_aload_n dd_59_123 rfl (j := 1) rfl ?_
          refine zg_getR dd_59_124 zl_Ways_9 zCs_141 rfl zCr_141_0 ?_
          refine zg_iload dd_59_127 (j := 5) rfl ?_
          refine zg_iald (w := (I 142 v4.toNatClampNeg)) dd_59_129 zCs_142 g8 rfl ?_
          refine zg_aload_n dd_59_130 rfl (j := 1) rfl ?_
          refine zg_getR dd_59_131 zl_Ways_23 zCs_141 rfl zCr_141_3 ?_
          refine zg_iload dd_59_134 (j := 5) rfl ?_
          refine zg_aald1 dd_59_136 zCs_161 g8 (zrR_C_161 g8) ?_
          refine zg_iload dd_59_137 (j := 6) rfl ?_
          refine zg_iald (w := (I (162 + v4.toNatClampNeg) v5.toNatClampNeg)) dd_59_139 (zrS_C_161 g8) g9 rfl ?_
          refine zg_iadd dd_59_140 ?_
          refine zg_iload dd_59_141 (j := 0) rfl ?_
          obtain ⟨r11, e12, h⟩ := z_bd h
          refine zg_invV_v (av := [.inl (I (145 + v4.toNatClampNeg) v5.toNatClampNeg), .inl ((I 142 v4.toNatClampNeg) + (I (162 + v4.toNatClampNeg) v5.toNatClampNeg)), .inl (I 143 v4.toNatClampNeg)]) (st := []) (n := 3) dd_59_143 ca_61 zw_682 zw_684 zv_19 zCs_141 zcl_9 rfl (mt_fc_Ways_comeTo_2 e12) rfl ⟨by decide +kernel, by decide⟩ (Nat.le_of_ble_eq_true rfl) ?_
          refine zg_iinc dd_59_146 (j := 6) rfl (v := (v5 + (1 : Int32))) (by rw [kI_1]) (Nat.le_of_ble_eq_true rfl) (lv' := [(5, .inl (v5 + (1 : Int32))), (6, .inl (I 143 v4.toNatClampNeg)), (0, .inr (.inr (some 141))), (1, .inl v1), (2, .inl v2), (3, .inl v3), (4, .inl v4)]) rfl ?_
          refine zg_goto (tgt := 70) dd_59_149 (by decide) ?_
          refine zg_sub [2, 3, 4, 5, 6, 0] rfl ?_
          exact ih _ _ _ _ _ _ h
      · replace h := z_t h q7
        refine zg_iconst dd_59_82 kI_1 ?_
        refine zg_iload dd_59_83 (j := 5) rfl ?_
        refine zg_ishl dd_59_85 ?_
        refine zg_goto (tgt := 96) dd_59_86 (by decide) ?_
        refine zg_istore dd_59_96 (Nat.le_of_ble_eq_true rfl) (lv' := [(6, .inl ((1 : Int32) <<< (v5 &&& 31))), (0, .inr (.inr (some 141))), (1, .inl v1), (2, .inl v2), (3, .inl v3), (4, .inl v4), (5, .inl v5)]) rfl ?_
        refine zg_aload_n dd_59_98 rfl (j := 1) rfl ?_
        refine zg_getR dd_59_99 zl_Ways_20 zCs_141 rfl zCr_141_2 ?_
        refine zg_iload dd_59_102 (j := 5) rfl ?_
        obtain ⟨g13, h⟩ := z_gd h
        refine zg_aald1 dd_59_104 zCs_144 g13 (zrR_C_144 g13) ?_
        refine zg_iload dd_59_105 (j := 6) rfl ?_
        obtain ⟨g14, h⟩ := z_gd h
        refine zg_iald (w := (I (145 + v4.toNatClampNeg) v5.toNatClampNeg)) dd_59_107 (zrS_C_144 g13) g14 rfl ?_
        refine zg_iconst dd_59_108 kI_m1 ?_
        refine zg_icmp_eq (tgt := 146) dd_59_109 (by decide) (fun q15 => ?_) (fun q15 => ?_)
        · replace h := z_t h q15
          refine zg_iinc dd_59_146 (j := 6) rfl (v := (v5 + (1 : Int32))) (by rw [kI_1]) (Nat.le_of_ble_eq_true rfl) (lv' := [(5, .inl (v5 + (1 : Int32))), (6, .inl ((1 : Int32) <<< (v5 &&& 31))), (0, .inr (.inr (some 141))), (1, .inl v1), (2, .inl v2), (3, .inl v3), (4, .inl v4)]) rfl ?_
          refine zg_goto (tgt := 70) dd_59_149 (by decide) ?_
          refine zg_sub [2, 3, 4, 5, 6, 0] rfl ?_
          exact ih _ _ _ _ _ _ h
        · replace h := z_f h q15
          refine zg_aload_n dd_59_112 rfl (j := 1) rfl ?_
          refine zg_aload_n dd_59_113 rfl (j := 1) rfl ?_
          refine zg_getR dd_59_114 zl_Ways_20 zCs_141 rfl zCr_141_2 ?_
          refine zg_iload dd_59_117 (j := 5) rfl ?_
          refine zg_aald1 dd_59_119 zCs_144 g13 (zrR_C_144 g13) ?_
          refine zg_iload dd_59_120 (j := 6) rfl ?_
          refine zg_iald (w := (I (145 + v4.toNatClampNeg) v5.toNatClampNeg)) dd_59_122 (zrS_C_144 g13) g14 rfl ?_
          refine zg_aload_n dd_59_123 rfl (j := 1) rfl ?_
          refine zg_getR dd_59_124 zl_Ways_9 zCs_141 rfl zCr_141_0 ?_
          refine zg_iload dd_59_127 (j := 5) rfl ?_
          refine zg_iald (w := (I 142 v4.toNatClampNeg)) dd_59_129 zCs_142 g13 rfl ?_
          refine zg_aload_n dd_59_130 rfl (j := 1) rfl ?_
          refine zg_getR dd_59_131 zl_Ways_23 zCs_141 rfl zCr_141_3 ?_
          refine zg_iload dd_59_134 (j := 5) rfl ?_
          refine zg_aald1 dd_59_136 zCs_161 g13 (zrR_C_161 g13) ?_
          refine zg_iload dd_59_137 (j := 6) rfl ?_
          refine zg_iald (w := (I (162 + v4.toNatClampNeg) v5.toNatClampNeg)) dd_59_139 (zrS_C_161 g13) g14 rfl ?_
          refine zg_iadd dd_59_140 ?_
          refine zg_iload dd_59_141 (j := 0) rfl ?_
          obtain ⟨r16, e17, h⟩ := z_bd h
          refine zg_invV_v (av := [.inl (I (145 + v4.toNatClampNeg) v5.toNatClampNeg), .inl ((I 142 v4.toNatClampNeg) + (I (162 + v4.toNatClampNeg) v5.toNatClampNeg)), .inl ((1 : Int32) <<< (v5 &&& 31))]) (st := []) (n := 3) dd_59_143 ca_61 zw_682 zw_684 zv_19 zCs_141 zcl_9 rfl (mt_fc_Ways_comeTo_2 e17) rfl ⟨by decide +kernel, by decide⟩ (Nat.le_of_ble_eq_true rfl) ?_
          refine zg_iinc dd_59_146 (j := 6) rfl (v := (v5 + (1 : Int32))) (by rw [kI_1]) (Nat.le_of_ble_eq_true rfl) (lv' := [(5, .inl (v5 + (1 : Int32))), (6, .inl ((1 : Int32) <<< (v5 &&& 31))), (0, .inr (.inr (some 141))), (1, .inl v1), (2, .inl v2), (3, .inl v3), (4, .inl v4)]) rfl ?_
          refine zg_goto (tgt := 70) dd_59_149 (by decide) ?_
          refine zg_sub [2, 3, 4, 5, 6, 0] rfl ?_
          exact ih _ _ _ _ _ _ h
set_option maxRecDepth 20000 in
theorem lt_fc_Ways_spread_2_L34 {res : zI} : ∀ (nf : Nat) (v1 : Int32) (v2 : Int32) (v3 : Int32) (I : zI), fc_Ways_spread_2_L34 nf v1 v2 v3 I = some res → zG 2 ym_59 0 0 none (zCs, zCr, res) zCs.length 34 [(0, .inr (.inr (some 141))), (1, .inl v1), (2, .inl v2), (3, .inl v3)] [] (zCs, zCr, I) 0 0 := by
  intro nf
  induction nf with
  | zero =>
    intro v1 v2 v3 I h
    have h2 : none = some res := h
    cases h2
  | succ nf ih =>
    intro v1 v2 v3 I h
    rw [fc_Ways_spread_2_L34] at h
    refine zg_iload_n dd_59_34 rfl (j := 3) rfl ?_
    refine zg_aload_n dd_59_35 rfl (j := 0) rfl ?_
    refine zg_getI (x := (I 141 4)) dd_59_36 zl_Ways_26 zCs_141 rfl rfl ?_
    refine zg_icmp_ge (tgt := 158) dd_59_39 (by decide) (fun q2 => ?_) (fun q2 => ?_)
    · replace h := z_t h q2
      obtain rfl := Option.some.inj h
      exact zg_vret dd_59_158 rfl
    · replace h := z_f h q2
      refine zg_aload_n dd_59_42 rfl (j := 0) rfl ?_
      refine zg_iload_n dd_59_43 rfl (j := 2) rfl ?_
      obtain ⟨r3, e4, h⟩ := z_bd h
      refine zg_invV_i (av := [.inl v2]) (st := []) (n := 1) dd_59_44 ca_60 zw_678 zw_680 zv_18 zCs_141 zcl_9 rfl (mt_fc_Ways_nearest_2 e4) rfl ⟨by decide +kernel, by decide⟩ (Nat.le_of_ble_eq_true rfl) ?_
      refine zg_istore dd_59_47 (Nat.le_of_ble_eq_true rfl) (lv' := [(4, .inl r3), (0, .inr (.inr (some 141))), (1, .inl v1), (2, .inl v2), (3, .inl v3)]) rfl ?_
      refine zg_iload dd_59_49 (j := 0) rfl ?_
      refine zg_iconst dd_59_51 kI_m1 ?_
      refine zg_icmp_ne (tgt := 58) dd_59_52 (by decide) (fun q5 => ?_) (fun q5 => ?_)
      · replace h := z_f h q5
        refine zg_iload_n dd_59_58 rfl (j := 3) rfl ?_
        refine zg_iconst dd_59_59 kI_1 ?_
        refine zg_iload dd_59_60 (j := 0) rfl ?_
        refine zg_ishl dd_59_62 ?_
        refine zg_iconst dd_59_63 kI_m1 ?_
        refine zg_ixor dd_59_64 ?_
        refine zg_iand dd_59_65 ?_
        refine zg_istore_n dd_59_66 rfl (Nat.le_of_ble_eq_true rfl) (lv' := [(2, .inl (v2 &&& (((1 : Int32) <<< (r3 &&& 31)) ^^^ (-1 : Int32)))), (4, .inl r3), (0, .inr (.inr (some 141))), (1, .inl v1), (3, .inl v3)]) rfl ?_
        refine zg_iconst dd_59_67 kI_0 ?_
        refine zg_istore dd_59_68 (Nat.le_of_ble_eq_true rfl) (lv' := [(5, .inl (0 : Int32)), (2, .inl (v2 &&& (((1 : Int32) <<< (r3 &&& 31)) ^^^ (-1 : Int32)))), (4, .inl r3), (0, .inr (.inr (some 141))), (1, .inl v1), (3, .inl v3)]) rfl ?_
        refine zg_sub [3, 4, 1, 5, 2, 0] rfl ?_
        refine lt_fc_Ways_spread_2_L70 ?_ _ _ _ _ _ _ _ h
        · intro u18 u19 u20 J21 h
          refine zg_iinc dd_59_152 (j := 3) rfl (v := (u20 + (1 : Int32))) (by rw [kI_1]) (Nat.le_of_ble_eq_true rfl) (lv' := [(3, .inl (u20 + (1 : Int32))), (0, .inr (.inr (some 141))), (1, .inl u18), (2, .inl u19)]) rfl ?_
          refine zg_goto (tgt := 34) dd_59_155 (by decide) ?_
          refine zg_sub [1, 2, 3, 0] rfl ?_
          exact ih _ _ _ _ h
      · replace h := z_t h q5
        refine zg_goto (tgt := 158) dd_59_55 (by decide) ?_
        obtain rfl := Option.some.inj h
        exact zg_vret dd_59_158 rfl
set_option maxRecDepth 20000 in
theorem mt_fc_Ways_spread_2 {I : zI} {a1 : Int32} {res : zI} (h : fc_Ways_spread_2 I a1 = some res) : zM 2 ym_59 [.inr (.inr (some 141)), .inl a1] (zCs, zCr, I) none (zCs, zCr, res) 0 0 := by
  refine zM_of (by decide) (Nat.le_of_ble_eq_true rfl) (lv := [(0, .inr (.inr (some 141))), (1, .inl a1)]) rfl ?_
  rw [fc_Ways_spread_2] at h
  refine zg_aload_n dd_59_0 rfl (j := 0) rfl ?_
  refine zg_getR dd_59_1 zl_Ways_9 zCs_141 rfl zCr_141_0 ?_
  refine zg_iconst dd_59_4 kI_m1 ?_
  refine zg_invS_v (av := [.inr (.inr (some 142)), .inl (-1 : Int32)]) (st := []) (n := 2) dd_59_5 ca_28 zw_677 zw_43 (mt_fill zCs_142 (Nat.le_of_ble_eq_true rfl)) rfl ⟨by decide +kernel, by decide⟩ (Nat.le_of_ble_eq_true rfl) ?_
  refine zg_aload_n dd_59_8 rfl (j := 0) rfl ?_
  refine zg_getR dd_59_9 zl_Ways_15 zCs_141 rfl zCr_141_1 ?_
  refine zg_iconst dd_59_12 kI_0 ?_
  refine zg_invS_v (av := [.inr (.inr (some 143)), .inl (0 : Int32)]) (st := []) (n := 2) dd_59_13 ca_28 zw_677 zw_43 (mt_fill zCs_143 (Nat.le_of_ble_eq_true rfl)) rfl ⟨by decide +kernel, by decide⟩ (Nat.le_of_ble_eq_true rfl) ?_
  refine zg_aload_n dd_59_16 rfl (j := 0) rfl ?_
  refine zg_getR dd_59_17 zl_Ways_9 zCs_141 rfl zCr_141_0 ?_
  refine zg_iload_n dd_59_20 rfl (j := 1) rfl ?_
  refine zg_iconst dd_59_21 kI_0 ?_
  obtain ⟨g1, h⟩ := z_gd h
  refine zg_iast dd_59_22 zCs_142 g1 ?_
  refine zg_iconst dd_59_23 kI_1 ?_
  refine zg_aload_n dd_59_24 rfl (j := 0) rfl ?_
  refine zg_getI (x := ((zfill (zfill I 142 16 (-1 : Int32)) 143 16 (0 : Int32)) 141 4)) dd_59_25 zl_Ways_26 zCs_141 rfl rfl ?_
  refine zg_ishl dd_59_28 ?_
  refine zg_iconst dd_59_29 kI_1 ?_
  refine zg_isub dd_59_30 ?_
  refine zg_istore_n dd_59_31 rfl (Nat.le_of_ble_eq_true rfl) (lv' := [(2, .inl (((1 : Int32) <<< (((zfill (zfill I 142 16 (-1 : Int32)) 143 16 (0 : Int32)) 141 4) &&& 31)) - (1 : Int32))), (0, .inr (.inr (some 141))), (1, .inl a1)]) rfl ?_
  refine zg_iconst dd_59_32 kI_0 ?_
  refine zg_istore_n dd_59_33 rfl (Nat.le_of_ble_eq_true rfl) (lv' := [(3, .inl (0 : Int32)), (2, .inl (((1 : Int32) <<< (((zfill (zfill I 142 16 (-1 : Int32)) 143 16 (0 : Int32)) 141 4) &&& 31)) - (1 : Int32))), (0, .inr (.inr (some 141))), (1, .inl a1)]) rfl ?_
  refine zg_sub [2, 3, 1, 0] rfl ?_
  refine lt_fc_Ways_spread_2_L34  _ _ _ _ _ h
/-! TurnedLand.meetingPlace[0, None, None] -/
def fc_T_meetingPlace_L46 : Nat → Int32 → Int32 → Int32 → zI → Option (Int32 × zI)
  | 0, _, _, _, _ => none
  | nf + 1, v3, v4, v5, I =>
    if (16 : Int32) ≤ v5 then
      some (v3, I)
    else
      z_guard (zb v5 16) <|
      if (I 105 v5.toNatClampNeg) < 0 then
        fc_T_meetingPlace_L46 nf v3 v4 (v5 + (1 : Int32)) I
      else
        if 0 ≤ (I 142 v5.toNatClampNeg) then
          if v3 = (-1 : Int32) then
            fc_T_meetingPlace_L46 nf v5 ((I 105 v5.toNatClampNeg) + (I 142 v5.toNatClampNeg)) (v5 + (1 : Int32)) I
          else
            if v4 ≤ ((I 105 v5.toNatClampNeg) + (I 142 v5.toNatClampNeg)) then
              fc_T_meetingPlace_L46 nf v3 v4 (v5 + (1 : Int32)) I
            else
              fc_T_meetingPlace_L46 nf v5 ((I 105 v5.toNatClampNeg) + (I 142 v5.toNatClampNeg)) (v5 + (1 : Int32)) I
        else
          fc_T_meetingPlace_L46 nf v3 v4 (v5 + (1 : Int32)) I
def fc_T_meetingPlace (I : zI) (a1 : Int32) (a2 : Int32) : Option (Int32 × zI) :=
  (fc_Ways_survey I).bind fun r1 =>
  (fc_Ways_spread r1 a1).bind fun r3 =>
  (fc_Ways_survey_2 r3).bind fun r5 =>
  (fc_Ways_spread_2 r5 a2).bind fun r7 =>
  fc_T_meetingPlace_L46
    100 (-1 : Int32) (0 : Int32) (0 : Int32) r7
set_option maxRecDepth 20000 in
theorem lt_fc_T_meetingPlace_L46 {res : (Int32 × zI)} : ∀ (nf : Nat) (v3 : Int32) (v4 : Int32) (v5 : Int32) (I : zI), fc_T_meetingPlace_L46 nf v3 v4 v5 I = some res → zG 6 ym_88 0 0 (some (.inl res.1)) (zCs, zCr, res.2) zCs.length 46 [(0, .inr (.inr (some 0))), (3, .inl v3), (4, .inl v4), (5, .inl v5)] [] (zCs, zCr, I) 0 0 := by
  intro nf
  induction nf with
  | zero =>
    intro v3 v4 v5 I h
    have h2 : none = some res := h
    cases h2
  | succ nf ih =>
    intro v3 v4 v5 I h
    rw [fc_T_meetingPlace_L46] at h
    refine zg_iload dd_88_46 (j := 3) rfl ?_
    refine zg_bipush dd_88_48 kB_16 ?_
    refine zg_icmp_ge (tgt := 130) dd_88_50 (by decide) (fun q9 => ?_) (fun q9 => ?_)
    · replace h := z_t h q9
      refine zg_iload_n dd_88_130 rfl (j := 1) rfl ?_
      obtain rfl := Option.some.inj h
      exact zg_iret dd_88_131 rfl
    · replace h := z_f h q9
      refine zg_aload_n dd_88_53 rfl (j := 0) rfl ?_
      refine zg_getR dd_88_54 zl_T_48 zCs_0 rfl zCr_0_8 ?_
      refine zg_getR dd_88_57 zl_T_193 zCs_104 rfl zCr_104_0 ?_
      refine zg_iload dd_88_60 (j := 3) rfl ?_
      obtain ⟨g10, h⟩ := z_gd h
      refine zg_iald (w := (I 105 v5.toNatClampNeg)) dd_88_62 zCs_105 g10 rfl ?_
      refine zg_if_lt (tgt := 124) dd_88_63 (by decide) (fun q11 => ?_) (fun q11 => ?_)
      · replace h := z_t h q11
        refine zg_iinc dd_88_124 (j := 3) rfl (v := (v5 + (1 : Int32))) (by rw [kI_1]) (Nat.le_of_ble_eq_true rfl) (lv' := [(5, .inl (v5 + (1 : Int32))), (0, .inr (.inr (some 0))), (3, .inl v3), (4, .inl v4)]) rfl ?_
        refine zg_goto (tgt := 46) dd_88_127 (by decide) ?_
        refine zg_sub [1, 2, 3, 0] rfl ?_
        exact ih _ _ _ _ h
      · replace h := z_f h q11
        refine zg_aload_n dd_88_66 rfl (j := 0) rfl ?_
        refine zg_getR dd_88_67 zl_T_52 zCs_0 rfl zCr_0_9 ?_
        refine zg_getR dd_88_70 zl_T_193 zCs_141 rfl zCr_141_0 ?_
        refine zg_iload dd_88_73 (j := 3) rfl ?_
        refine zg_iald (w := (I 142 v5.toNatClampNeg)) dd_88_75 zCs_142 g10 rfl ?_
        refine zg_if_ge (tgt := 82) dd_88_76 (by decide) (fun q12 => ?_) (fun q12 => ?_)
        · replace h := z_t h q12
          refine zg_aload_n dd_88_82 rfl (j := 0) rfl ?_
          refine zg_getR dd_88_83 zl_T_48 zCs_0 rfl zCr_0_8 ?_
          refine zg_getR dd_88_86 zl_T_193 zCs_104 rfl zCr_104_0 ?_
          refine zg_iload dd_88_89 (j := 3) rfl ?_
          refine zg_iald (w := (I 105 v5.toNatClampNeg)) dd_88_91 zCs_105 g10 rfl ?_
          refine zg_aload_n dd_88_92 rfl (j := 0) rfl ?_
          refine zg_getR dd_88_93 zl_T_52 zCs_0 rfl zCr_0_9 ?_
          refine zg_getR dd_88_96 zl_T_193 zCs_141 rfl zCr_141_0 ?_
          refine zg_iload dd_88_99 (j := 3) rfl ?_
          refine zg_iald (w := (I 142 v5.toNatClampNeg)) dd_88_101 zCs_142 g10 rfl ?_
          refine zg_iadd dd_88_102 ?_
          refine zg_istore dd_88_103 (Nat.le_of_ble_eq_true rfl) (lv' := [(6, .inl ((I 105 v5.toNatClampNeg) + (I 142 v5.toNatClampNeg))), (0, .inr (.inr (some 0))), (3, .inl v3), (4, .inl v4), (5, .inl v5)]) rfl ?_
          refine zg_iload_n dd_88_105 rfl (j := 2) rfl ?_
          refine zg_iconst dd_88_106 kI_m1 ?_
          refine zg_icmp_eq (tgt := 117) dd_88_107 (by decide) (fun q13 => ?_) (fun q13 => ?_)
          · replace h := z_t h q13
            refine zg_iload dd_88_117 (j := 4) rfl ?_
            refine zg_istore_n dd_88_119 rfl (Nat.le_of_ble_eq_true rfl) (lv' := [(3, .inl v5), (6, .inl ((I 105 v5.toNatClampNeg) + (I 142 v5.toNatClampNeg))), (0, .inr (.inr (some 0))), (4, .inl v4), (5, .inl v5)]) rfl ?_
            refine zg_iload dd_88_120 (j := 1) rfl ?_
            refine zg_istore dd_88_122 (Nat.le_of_ble_eq_true rfl) (lv' := [(4, .inl ((I 105 v5.toNatClampNeg) + (I 142 v5.toNatClampNeg))), (3, .inl v5), (6, .inl ((I 105 v5.toNatClampNeg) + (I 142 v5.toNatClampNeg))), (0, .inr (.inr (some 0))), (5, .inl v5)]) rfl ?_
            refine zg_iinc dd_88_124 (j := 4) rfl (v := (v5 + (1 : Int32))) (by rw [kI_1]) (Nat.le_of_ble_eq_true rfl) (lv' := [(5, .inl (v5 + (1 : Int32))), (4, .inl ((I 105 v5.toNatClampNeg) + (I 142 v5.toNatClampNeg))), (3, .inl v5), (6, .inl ((I 105 v5.toNatClampNeg) + (I 142 v5.toNatClampNeg))), (0, .inr (.inr (some 0)))]) rfl ?_
            refine zg_goto (tgt := 46) dd_88_127 (by decide) ?_
            refine zg_sub [4, 2, 1, 0] rfl ?_
            exact ih _ _ _ _ h
          · replace h := z_f h q13
            refine zg_iload dd_88_110 (j := 0) rfl ?_
            refine zg_iload dd_88_112 (j := 3) rfl ?_
            refine zg_icmp_ge (tgt := 124) dd_88_114 (by decide) (fun q14 => ?_) (fun q14 => ?_)
            · replace h := z_t h q14
              refine zg_iinc dd_88_124 (j := 4) rfl (v := (v5 + (1 : Int32))) (by rw [kI_1]) (Nat.le_of_ble_eq_true rfl) (lv' := [(5, .inl (v5 + (1 : Int32))), (6, .inl ((I 105 v5.toNatClampNeg) + (I 142 v5.toNatClampNeg))), (0, .inr (.inr (some 0))), (3, .inl v3), (4, .inl v4)]) rfl ?_
              refine zg_goto (tgt := 46) dd_88_127 (by decide) ?_
              refine zg_sub [2, 3, 4, 0] rfl ?_
              exact ih _ _ _ _ h
            · replace h := z_f h q14
              refine zg_iload dd_88_117 (j := 4) rfl ?_
              refine zg_istore_n dd_88_119 rfl (Nat.le_of_ble_eq_true rfl) (lv' := [(3, .inl v5), (6, .inl ((I 105 v5.toNatClampNeg) + (I 142 v5.toNatClampNeg))), (0, .inr (.inr (some 0))), (4, .inl v4), (5, .inl v5)]) rfl ?_
              refine zg_iload dd_88_120 (j := 1) rfl ?_
              refine zg_istore dd_88_122 (Nat.le_of_ble_eq_true rfl) (lv' := [(4, .inl ((I 105 v5.toNatClampNeg) + (I 142 v5.toNatClampNeg))), (3, .inl v5), (6, .inl ((I 105 v5.toNatClampNeg) + (I 142 v5.toNatClampNeg))), (0, .inr (.inr (some 0))), (5, .inl v5)]) rfl ?_
              refine zg_iinc dd_88_124 (j := 4) rfl (v := (v5 + (1 : Int32))) (by rw [kI_1]) (Nat.le_of_ble_eq_true rfl) (lv' := [(5, .inl (v5 + (1 : Int32))), (4, .inl ((I 105 v5.toNatClampNeg) + (I 142 v5.toNatClampNeg))), (3, .inl v5), (6, .inl ((I 105 v5.toNatClampNeg) + (I 142 v5.toNatClampNeg))), (0, .inr (.inr (some 0)))]) rfl ?_
              refine zg_goto (tgt := 46) dd_88_127 (by decide) ?_
              refine zg_sub [4, 2, 1, 0] rfl ?_
              exact ih _ _ _ _ h
        · replace h := z_f h q12
          refine zg_goto (tgt := 124) dd_88_79 (by decide) ?_
          refine zg_iinc dd_88_124 (j := 3) rfl (v := (v5 + (1 : Int32))) (by rw [kI_1]) (Nat.le_of_ble_eq_true rfl) (lv' := [(5, .inl (v5 + (1 : Int32))), (0, .inr (.inr (some 0))), (3, .inl v3), (4, .inl v4)]) rfl ?_
          refine zg_goto (tgt := 46) dd_88_127 (by decide) ?_
          refine zg_sub [1, 2, 3, 0] rfl ?_
          exact ih _ _ _ _ h
set_option maxRecDepth 20000 in
theorem mt_fc_T_meetingPlace {I : zI} {a1 : Int32} {a2 : Int32} {res : (Int32 × zI)} (h : fc_T_meetingPlace I a1 a2 = some res) : zM 6 ym_88 [.inr (.inr (some 0)), .inl a1, .inl a2] (zCs, zCr, I) (some (.inl res.1)) (zCs, zCr, res.2) 0 0 := by
  refine zM_of (by decide) (Nat.le_of_ble_eq_true rfl) (lv := [(0, .inr (.inr (some 0))), (1, .inl a1), (2, .inl a2)]) rfl ?_
  rw [fc_T_meetingPlace] at h
  refine zg_aload_n dd_88_0 rfl (j := 0) rfl ?_
  refine zg_getR dd_88_1 zl_T_48 zCs_0 rfl zCr_0_8 ?_
  refine zg_aload_n dd_88_4 rfl (j := 0) rfl ?_
  refine zg_getR dd_88_5 zl_T_12 zCs_0 rfl zCr_0_0 ?_
  obtain ⟨r1, e2, h⟩ := z_bd h
  refine zg_invV_v (av := [.inr (.inr (some 1))]) (st := []) (n := 1) dd_88_8 ca_51 zw_635 zw_636 zw_637 zCs_104 zcl_9 rfl (mt_fc_Ways_survey e2) rfl ⟨by decide +kernel, by decide⟩ (Nat.le_of_ble_eq_true rfl) ?_
  refine zg_aload_n dd_88_11 rfl (j := 0) rfl ?_
  refine zg_getR dd_88_12 zl_T_48 zCs_0 rfl zCr_0_8 ?_
  refine zg_iload_n dd_88_15 rfl (j := 1) rfl ?_
  obtain ⟨r3, e4, h⟩ := z_bd h
  refine zg_invV_v (av := [.inl a1]) (st := []) (n := 1) dd_88_16 ca_59 zw_673 zw_674 zw_675 zCs_104 zcl_9 rfl (mt_fc_Ways_spread e4) rfl ⟨by decide +kernel, by decide⟩ (Nat.le_of_ble_eq_true rfl) ?_
  refine zg_aload_n dd_88_19 rfl (j := 0) rfl ?_
  refine zg_getR dd_88_20 zl_T_52 zCs_0 rfl zCr_0_9 ?_
  refine zg_aload_n dd_88_23 rfl (j := 0) rfl ?_
  refine zg_getR dd_88_24 zl_T_12 zCs_0 rfl zCr_0_0 ?_
  obtain ⟨r5, e6, h⟩ := z_bd h
  refine zg_invV_v (av := [.inr (.inr (some 1))]) (st := []) (n := 1) dd_88_27 ca_51 zw_635 zw_636 zw_637 zCs_141 zcl_9 rfl (mt_fc_Ways_survey_2 e6) rfl ⟨by decide +kernel, by decide⟩ (Nat.le_of_ble_eq_true rfl) ?_
  refine zg_aload_n dd_88_30 rfl (j := 0) rfl ?_
  refine zg_getR dd_88_31 zl_T_52 zCs_0 rfl zCr_0_9 ?_
  refine zg_iload_n dd_88_34 rfl (j := 2) rfl ?_
  obtain ⟨r7, e8, h⟩ := z_bd h
  refine zg_invV_v (av := [.inl a2]) (st := []) (n := 1) dd_88_35 ca_59 zw_673 zw_674 zw_675 zCs_141 zcl_9 rfl (mt_fc_Ways_spread_2 e8) rfl ⟨by decide +kernel, by decide⟩ (Nat.le_of_ble_eq_true rfl) ?_
  refine zg_iconst dd_88_38 kI_m1 ?_
  refine zg_istore_n dd_88_39 rfl (Nat.le_of_ble_eq_true rfl) (lv' := [(3, .inl (-1 : Int32)), (0, .inr (.inr (some 0))), (1, .inl a1), (2, .inl a2)]) rfl ?_
  refine zg_iconst dd_88_40 kI_0 ?_
  refine zg_istore dd_88_41 (Nat.le_of_ble_eq_true rfl) (lv' := [(4, .inl (0 : Int32)), (3, .inl (-1 : Int32)), (0, .inr (.inr (some 0))), (1, .inl a1), (2, .inl a2)]) rfl ?_
  refine zg_iconst dd_88_43 kI_0 ?_
  refine zg_istore dd_88_44 (Nat.le_of_ble_eq_true rfl) (lv' := [(5, .inl (0 : Int32)), (4, .inl (0 : Int32)), (3, .inl (-1 : Int32)), (0, .inr (.inr (some 0))), (1, .inl a1), (2, .inl a2)]) rfl ?_
  refine zg_sub [3, 2, 1, 0] rfl ?_
  refine lt_fc_T_meetingPlace_L46  _ _ _ _ _ h
/-! TurnedLand.meet(0, None, None, None) -/
def fc_T_meet_J37 (I : zI) (v1 : Int32) (v2 : Int32) (v3 : Int32) (x0 : Int32) : Option (Int32 × zI) :=
  if x0 = 0 then
    (fc_T_refuse I (1 : Int32)).bind fun r5 =>
    some (r5.1, r5.2)
  else
    (fc_T_within I v3 (0 : Int32) (2 : Int32)).bind fun r7 =>
    if r7 = 0 then
      (fc_T_refuse I (1 : Int32)).bind fun r23 =>
      some (r23.1, r23.2)
    else
      if v3 = 0 then
        z_guard (zb v1 6) <|
        z_guard (zb v2 6) <|
        if (I 24 v1.toNatClampNeg) = (I 24 v2.toNatClampNeg) then
          some ((1 : Int32), I)
        else
          some ((0 : Int32), I)
      else
        z_guard (zb v1 6) <|
        z_guard (zb v2 6) <|
        (fc_T_meetingPlace I (I 24 v1.toNatClampNeg) (I 24 v2.toNatClampNeg)).bind fun r13 =>
        if r13.1 = (-1 : Int32) then
          (fc_T_refuse r13.2 (2 : Int32)).bind fun r18 =>
          some (r18.1, r18.2)
        else
          if v3 = (1 : Int32) then
            z_guard (zb r13.1 16) <|
            some (((r13.2 105 r13.1.toNatClampNeg) + (r13.2 142 r13.1.toNatClampNeg)), r13.2)
          else
            some ((r13.1 / (2 : Int32)), r13.2)
def fc_T_meet_J36 (I : zI) (v1 : Int32) (v2 : Int32) (v3 : Int32) : Option (Int32 × zI) :=
  fc_T_meet_J37 I v1 v2 v3 (0 : Int32)
def fc_T_meet (I : zI) (a1 : Int32) (a2 : Int32) (a3 : Int32) : Option (Int32 × zI) :=
  (fc_Folk_hasPerson I a1).bind fun r1 =>
  if r1 = 0 then
    fc_T_meet_J36 I a1 a2 a3
  else
    (fc_Folk_hasPerson I a2).bind fun r25 =>
    if r25 = 0 then
      fc_T_meet_J36 I a1 a2 a3
    else
      if a1 = a2 then
        fc_T_meet_J36 I a1 a2 a3
      else
        fc_T_meet_J37 I a1 a2 a3 (1 : Int32)
set_option maxRecDepth 20000 in
theorem jt_fc_T_meet_J37 {res : (Int32 × zI)} {I : zI} {v1 : Int32} {v2 : Int32} {v3 : Int32} {x0 : Int32} (h : fc_T_meet_J37 I v1 v2 v3 x0 = some res) : zG 7 ym_87 0 0 (some (.inl res.1)) (zCs, zCr, res.2) zCs.length 37 [(0, .inr (.inr (some 0))), (1, .inl v1), (2, .inl v2), (3, .inl v3), (4, .inr (.inr (some 23)))] [.inl x0] (zCs, zCr, I) 0 0 := by
  rw [fc_T_meet_J37] at h
  refine zg_istore dd_87_37 (Nat.le_of_ble_eq_true rfl) (lv' := [(5, .inl x0), (0, .inr (.inr (some 0))), (1, .inl v1), (2, .inl v2), (3, .inl v3), (4, .inr (.inr (some 23)))]) rfl ?_
  refine zg_iload dd_87_39 (j := 0) rfl ?_
  refine zg_if_eq (tgt := 53) dd_87_41 (by decide) (fun q4 => ?_) (fun q4 => ?_)
  · replace h := z_t h q4
    refine zg_aload_n dd_87_53 rfl (j := 1) rfl ?_
    refine zg_iconst dd_87_54 kI_1 ?_
    obtain ⟨r5, e6, h⟩ := z_bd h
    refine zg_invV_i (av := [.inl (1 : Int32)]) (st := []) (n := 1) dd_87_55 ca_2 zw_430 zw_432 zv_0 zCs_0 zcl_11 rfl (mt_fc_T_refuse e6) rfl ⟨by decide +kernel, by decide⟩ (Nat.le_of_ble_eq_true rfl) ?_
    obtain rfl := Option.some.inj h
    exact zg_iret dd_87_58 rfl
  · replace h := z_f h q4
    refine zg_iload_n dd_87_44 rfl (j := 4) rfl ?_
    refine zg_iconst dd_87_45 kI_0 ?_
    refine zg_iconst dd_87_46 kI_2 ?_
    obtain ⟨r7, e8, h⟩ := z_bd h
    refine zg_invS_i (av := [.inl v3, .inl (0 : Int32), .inl (2 : Int32)]) (st := []) (n := 3) dd_87_47 ca_1 zw_427 zw_428 (mt_fc_T_within e8) rfl ⟨by decide +kernel, by decide⟩ (Nat.le_of_ble_eq_true rfl) ?_
    refine zg_if_ne (tgt := 59) dd_87_50 (by decide) (fun q9 => ?_) (fun q9 => ?_)
    · replace h := z_f h q9
      refine zg_iload_n dd_87_59 rfl (j := 4) rfl ?_
      refine zg_if_ne (tgt := 86) dd_87_60 (by decide) (fun q10 => ?_) (fun q10 => ?_)
      · replace h := z_f h q10
        refine zg_aload_n dd_87_86 rfl (j := 1) rfl ?_
        refine zg_aload dd_87_87 (j := 5) rfl ?_
        refine zg_getR dd_87_89 zl_T_264 zCs_23 rfl zCr_23_1 ?_
        refine zg_iload_n dd_87_92 rfl (j := 2) rfl ?_
        obtain ⟨g11, h⟩ := z_gd h
        refine zg_iald (w := (I 24 v1.toNatClampNeg)) dd_87_93 zCs_24 g11 rfl ?_
        refine zg_aload dd_87_94 (j := 5) rfl ?_
        refine zg_getR dd_87_96 zl_T_264 zCs_23 rfl zCr_23_1 ?_
        refine zg_iload_n dd_87_99 rfl (j := 3) rfl ?_
        obtain ⟨g12, h⟩ := z_gd h
        refine zg_iald (w := (I 24 v2.toNatClampNeg)) dd_87_100 zCs_24 g12 rfl ?_
        obtain ⟨r13, e14, h⟩ := z_bd h
        refine zg_invV_i (av := [.inl (I 24 v1.toNatClampNeg), .inl (I 24 v2.toNatClampNeg)]) (st := []) (n := 2) dd_87_101 ca_88 zw_803 zw_805 zv_21 zCs_0 zcl_11 rfl (mt_fc_T_meetingPlace e14) rfl ⟨by decide +kernel, by decide⟩ (Nat.le_of_ble_eq_true rfl) ?_
        refine zg_istore dd_87_104 (Nat.le_of_ble_eq_true rfl) (lv' := [(6, .inl r13.1), (5, .inl x0), (0, .inr (.inr (some 0))), (1, .inl v1), (2, .inl v2), (3, .inl v3), (4, .inr (.inr (some 23)))]) rfl ?_
        refine zg_iload dd_87_106 (j := 0) rfl ?_
        refine zg_iconst dd_87_108 kI_m1 ?_
        refine zg_icmp_ne (tgt := 118) dd_87_109 (by decide) (fun q15 => ?_) (fun q15 => ?_)
        · replace h := z_f h q15
          refine zg_iload_n dd_87_118 rfl (j := 5) rfl ?_
          refine zg_iconst dd_87_119 kI_1 ?_
          refine zg_icmp_ne (tgt := 147) dd_87_120 (by decide) (fun q16 => ?_) (fun q16 => ?_)
          · replace h := z_f h q16
            refine zg_iload dd_87_147 (j := 0) rfl ?_
            refine zg_iconst dd_87_149 kI_2 ?_
            refine zg_idiv dd_87_150 (by decide) ?_
            obtain rfl := Option.some.inj h
            exact zg_iret dd_87_151 rfl
          · replace h := z_t h q16
            refine zg_aload_n dd_87_123 rfl (j := 2) rfl ?_
            refine zg_getR dd_87_124 zl_T_48 zCs_0 rfl zCr_0_8 ?_
            refine zg_getR dd_87_127 zl_T_193 zCs_104 rfl zCr_104_0 ?_
            refine zg_iload dd_87_130 (j := 0) rfl ?_
            obtain ⟨g17, h⟩ := z_gd h
            refine zg_iald (w := (r13.2 105 r13.1.toNatClampNeg)) dd_87_132 zCs_105 g17 rfl ?_
            refine zg_aload_n dd_87_133 rfl (j := 2) rfl ?_
            refine zg_getR dd_87_134 zl_T_52 zCs_0 rfl zCr_0_9 ?_
            refine zg_getR dd_87_137 zl_T_193 zCs_141 rfl zCr_141_0 ?_
            refine zg_iload dd_87_140 (j := 0) rfl ?_
            refine zg_iald (w := (r13.2 142 r13.1.toNatClampNeg)) dd_87_142 zCs_142 g17 rfl ?_
            refine zg_iadd dd_87_143 ?_
            refine zg_goto (tgt := 151) dd_87_144 (by decide) ?_
            obtain rfl := Option.some.inj h
            exact zg_iret dd_87_151 rfl
        · replace h := z_t h q15
          refine zg_aload_n dd_87_112 rfl (j := 2) rfl ?_
          refine zg_iconst dd_87_113 kI_2 ?_
          obtain ⟨r18, e19, h⟩ := z_bd h
          refine zg_invV_i (av := [.inl (2 : Int32)]) (st := []) (n := 1) dd_87_114 ca_2 zw_430 zw_432 zv_0 zCs_0 zcl_11 rfl (mt_fc_T_refuse e19) rfl ⟨by decide +kernel, by decide⟩ (Nat.le_of_ble_eq_true rfl) ?_
          obtain rfl := Option.some.inj h
          exact zg_iret dd_87_117 rfl
      · replace h := z_t h q10
        refine zg_aload dd_87_63 (j := 5) rfl ?_
        refine zg_getR dd_87_65 zl_T_264 zCs_23 rfl zCr_23_1 ?_
        refine zg_iload_n dd_87_68 rfl (j := 2) rfl ?_
        obtain ⟨g20, h⟩ := z_gd h
        refine zg_iald (w := (I 24 v1.toNatClampNeg)) dd_87_69 zCs_24 g20 rfl ?_
        refine zg_aload dd_87_70 (j := 5) rfl ?_
        refine zg_getR dd_87_72 zl_T_264 zCs_23 rfl zCr_23_1 ?_
        refine zg_iload_n dd_87_75 rfl (j := 3) rfl ?_
        obtain ⟨g21, h⟩ := z_gd h
        refine zg_iald (w := (I 24 v2.toNatClampNeg)) dd_87_76 zCs_24 g21 rfl ?_
        refine zg_icmp_ne (tgt := 84) dd_87_77 (by decide) (fun q22 => ?_) (fun q22 => ?_)
        · replace h := z_f h q22
          refine zg_iconst dd_87_84 kI_0 ?_
          obtain rfl := Option.some.inj h
          exact zg_iret dd_87_85 rfl
        · replace h := z_t h q22
          refine zg_iconst dd_87_80 kI_1 ?_
          refine zg_goto (tgt := 85) dd_87_81 (by decide) ?_
          obtain rfl := Option.some.inj h
          exact zg_iret dd_87_85 rfl
    · replace h := z_t h q9
      refine zg_aload_n dd_87_53 rfl (j := 1) rfl ?_
      refine zg_iconst dd_87_54 kI_1 ?_
      obtain ⟨r23, e24, h⟩ := z_bd h
      refine zg_invV_i (av := [.inl (1 : Int32)]) (st := []) (n := 1) dd_87_55 ca_2 zw_430 zw_432 zv_0 zCs_0 zcl_11 rfl (mt_fc_T_refuse e24) rfl ⟨by decide +kernel, by decide⟩ (Nat.le_of_ble_eq_true rfl) ?_
      obtain rfl := Option.some.inj h
      exact zg_iret dd_87_58 rfl
set_option maxRecDepth 20000 in
theorem jt_fc_T_meet_J36 {res : (Int32 × zI)} {I : zI} {v1 : Int32} {v2 : Int32} {v3 : Int32} (h : fc_T_meet_J36 I v1 v2 v3 = some res) : zG 7 ym_87 0 0 (some (.inl res.1)) (zCs, zCr, res.2) zCs.length 36 [(0, .inr (.inr (some 0))), (1, .inl v1), (2, .inl v2), (3, .inl v3), (4, .inr (.inr (some 23)))] [] (zCs, zCr, I) 0 0 := by
  rw [fc_T_meet_J36] at h
  refine zg_iconst dd_87_36 kI_0 ?_
  refine zg_sub [0, 1, 2, 3, 4] rfl ?_
  exact jt_fc_T_meet_J37 h
set_option maxRecDepth 20000 in
theorem mt_fc_T_meet {I : zI} {a1 : Int32} {a2 : Int32} {a3 : Int32} {res : (Int32 × zI)} (h : fc_T_meet I a1 a2 a3 = some res) : zM 7 ym_87 [.inr (.inr (some 0)), .inl a1, .inl a2, .inl a3] (zCs, zCr, I) (some (.inl res.1)) (zCs, zCr, res.2) 0 0 := by
  refine zM_of (by decide) (Nat.le_of_ble_eq_true rfl) (lv := [(0, .inr (.inr (some 0))), (1, .inl a1), (2, .inl a2), (3, .inl a3)]) rfl ?_
  rw [fc_T_meet] at h
  refine zg_aload_n dd_87_0 rfl (j := 0) rfl ?_
  refine zg_getR dd_87_1 zl_T_12 zCs_0 rfl zCr_0_0 ?_
  refine zg_getR dd_87_4 zl_T_255 zCs_1 rfl zCr_1_2 ?_
  refine zg_astore dd_87_7 (Nat.le_of_ble_eq_true rfl) (lv' := [(4, .inr (.inr (some 23))), (0, .inr (.inr (some 0))), (1, .inl a1), (2, .inl a2), (3, .inl a3)]) rfl ?_
  refine zg_aload dd_87_9 (j := 0) rfl ?_
  refine zg_iload_n dd_87_11 rfl (j := 2) rfl ?_
  obtain ⟨r1, e2, h⟩ := z_bd h
  refine zg_invV_i (av := [.inl a1]) (st := []) (n := 1) dd_87_12 ca_82 zw_774 zw_775 zw_776 zCs_23 zcl_1 rfl (mt_fc_Folk_hasPerson e2) rfl ⟨by decide +kernel, by decide⟩ (Nat.le_of_ble_eq_true rfl) ?_
  refine zg_if_eq (tgt := 36) dd_87_15 (by decide) (fun q3 => ?_) (fun q3 => ?_)
  · replace h := z_t h q3
    refine zg_sub [1, 2, 3, 4, 0] rfl ?_
    exact jt_fc_T_meet_J36 h
  · replace h := z_f h q3
    refine zg_aload dd_87_18 (j := 0) rfl ?_
    refine zg_iload_n dd_87_20 rfl (j := 3) rfl ?_
    obtain ⟨r25, e26, h⟩ := z_bd h
    refine zg_invV_i (av := [.inl a2]) (st := []) (n := 1) dd_87_21 ca_82 zw_774 zw_775 zw_776 zCs_23 zcl_1 rfl (mt_fc_Folk_hasPerson e26) rfl ⟨by decide +kernel, by decide⟩ (Nat.le_of_ble_eq_true rfl) ?_
    refine zg_if_eq (tgt := 36) dd_87_24 (by decide) (fun q27 => ?_) (fun q27 => ?_)
    · replace h := z_t h q27
      refine zg_sub [1, 2, 3, 4, 0] rfl ?_
      exact jt_fc_T_meet_J36 h
    · replace h := z_f h q27
      refine zg_iload_n dd_87_27 rfl (j := 2) rfl ?_
      refine zg_iload_n dd_87_28 rfl (j := 3) rfl ?_
      refine zg_icmp_eq (tgt := 36) dd_87_29 (by decide) (fun q28 => ?_) (fun q28 => ?_)
      · replace h := z_t h q28
        refine zg_sub [1, 2, 3, 4, 0] rfl ?_
        exact jt_fc_T_meet_J36 h
      · replace h := z_f h q28
        refine zg_iconst dd_87_32 kI_1 ?_
        refine zg_goto (tgt := 37) dd_87_33 (by decide) ?_
        refine zg_sub [1, 2, 3, 4, 0] rfl ?_
        exact jt_fc_T_meet_J37 h
/-! TurnedLand$Folk.addThing[23, None, None, None] -/
def fc_Folk_addThing (I : zI) (a1 : Int32) (a2 : Int32) (a3 : Int32) : Option (Int32 × zI) :=
  z_guard (zb (I 23 3) 6) <|
  some ((I 23 3), (zup (zup (zup (zup I 26 (I 23 3).toNatClampNeg a1) 27 (I 23 3).toNatClampNeg a2) 28 (I 23 3).toNatClampNeg a3) 23 3 ((I 23 3) + (1 : Int32))))
set_option maxRecDepth 20000 in
theorem mt_fc_Folk_addThing {I : zI} {a1 : Int32} {a2 : Int32} {a3 : Int32} {res : (Int32 × zI)} (h : fc_Folk_addThing I a1 a2 a3 = some res) : zM 1 ym_90 [.inr (.inr (some 23)), .inl a1, .inl a2, .inl a3] (zCs, zCr, I) (some (.inl res.1)) (zCs, zCr, res.2) 0 0 := by
  refine zM_of (by decide) (Nat.le_of_ble_eq_true rfl) (lv := [(0, .inr (.inr (some 23))), (1, .inl a1), (2, .inl a2), (3, .inl a3)]) rfl ?_
  rw [fc_Folk_addThing] at h
  refine zg_aload_n dd_90_0 rfl (j := 0) rfl ?_
  refine zg_getR dd_90_1 zl_Folk_25 zCs_23 rfl zCr_23_4 ?_
  refine zg_aload_n dd_90_4 rfl (j := 0) rfl ?_
  refine zg_getI (x := (I 23 3)) dd_90_5 zl_Folk_22 zCs_23 rfl rfl ?_
  refine zg_iload_n dd_90_8 rfl (j := 1) rfl ?_
  obtain ⟨g1, h⟩ := z_gd h
  refine zg_iast dd_90_9 zCs_26 g1 ?_
  refine zg_aload_n dd_90_10 rfl (j := 0) rfl ?_
  refine zg_getR dd_90_11 zl_Folk_28 zCs_23 rfl zCr_23_5 ?_
  refine zg_aload_n dd_90_14 rfl (j := 0) rfl ?_
  refine zg_getI (x := (I 23 3)) dd_90_15 zl_Folk_22 zCs_23 rfl rfl ?_
  refine zg_iload_n dd_90_18 rfl (j := 2) rfl ?_
  refine zg_iast dd_90_19 zCs_27 g1 ?_
  refine zg_aload_n dd_90_20 rfl (j := 0) rfl ?_
  refine zg_getR dd_90_21 zl_Folk_31 zCs_23 rfl zCr_23_6 ?_
  refine zg_aload_n dd_90_24 rfl (j := 0) rfl ?_
  refine zg_getI (x := (I 23 3)) dd_90_25 zl_Folk_22 zCs_23 rfl rfl ?_
  refine zg_iload_n dd_90_28 rfl (j := 3) rfl ?_
  refine zg_iast dd_90_29 zCs_28 g1 ?_
  refine zg_aload_n dd_90_30 rfl (j := 0) rfl ?_
  refine zg_dup dd_90_31 rfl ?_
  refine zg_getI (x := (I 23 3)) dd_90_32 zl_Folk_22 zCs_23 rfl rfl ?_
  refine zg_dup_x1 dd_90_35 rfl rfl ?_
  refine zg_iconst dd_90_36 kI_1 ?_
  refine zg_iadd dd_90_37 ?_
  refine zg_putI dd_90_38 zp_Folk_22 zCs_23 rfl (zSt_int _) ?_
  obtain rfl := Option.some.inj h
  exact zg_iret dd_90_41 rfl
/-! TurnedLand.thing(0, None, None, None) -/
def fc_T_thing (I : zI) (a1 : Int32) (a2 : Int32) (a3 : Int32) : Option (Int32 × zI) :=
  (fc_Ground_hasPlace I a1).bind fun r1 =>
  if r1 = 0 then
    (fc_T_refuse I (1 : Int32)).bind fun r5 =>
    some (r5.1, r5.2)
  else
    (fc_T_within I a2 (0 : Int32) (9999 : Int32)).bind fun r7 =>
    if r7 = 0 then
      (fc_T_refuse I (1 : Int32)).bind fun r11 =>
      some (r11.1, r11.2)
    else
      (fc_T_within I a3 (0 : Int32) (1 : Int32)).bind fun r13 =>
      if r13 = 0 then
        (fc_T_refuse I (1 : Int32)).bind fun r17 =>
        some (r17.1, r17.2)
      else
        if (I 23 3) < (6 : Int32) then
          (fc_Folk_addThing I a1 a2 a3).bind fun r21 =>
          some (r21.1, r21.2)
        else
          (fc_T_refuse I (4 : Int32)).bind fun r23 =>
          some (r23.1, r23.2)
set_option maxRecDepth 20000 in
theorem mt_fc_T_thing {I : zI} {a1 : Int32} {a2 : Int32} {a3 : Int32} {res : (Int32 × zI)} (h : fc_T_thing I a1 a2 a3 = some res) : zM 3 ym_89 [.inr (.inr (some 0)), .inl a1, .inl a2, .inl a3] (zCs, zCr, I) (some (.inl res.1)) (zCs, zCr, res.2) 0 0 := by
  refine zM_of (by decide) (Nat.le_of_ble_eq_true rfl) (lv := [(0, .inr (.inr (some 0))), (1, .inl a1), (2, .inl a2), (3, .inl a3)]) rfl ?_
  rw [fc_T_thing] at h
  refine zg_aload_n dd_89_0 rfl (j := 0) rfl ?_
  refine zg_getR dd_89_1 zl_T_12 zCs_0 rfl zCr_0_0 ?_
  refine zg_getR dd_89_4 zl_T_255 zCs_1 rfl zCr_1_2 ?_
  refine zg_astore dd_89_7 (Nat.le_of_ble_eq_true rfl) (lv' := [(4, .inr (.inr (some 23))), (0, .inr (.inr (some 0))), (1, .inl a1), (2, .inl a2), (3, .inl a3)]) rfl ?_
  refine zg_aload_n dd_89_9 rfl (j := 1) rfl ?_
  refine zg_getR dd_89_10 zl_T_12 zCs_0 rfl zCr_0_0 ?_
  refine zg_getR dd_89_13 zl_T_76 zCs_1 rfl zCr_1_0 ?_
  refine zg_iload_n dd_89_16 rfl (j := 2) rfl ?_
  obtain ⟨r1, e2, h⟩ := z_bd h
  refine zg_invV_i (av := [.inl a1]) (st := []) (n := 1) dd_89_17 ca_50 zw_631 zw_632 zw_633 zCs_2 zcl_2 rfl (mt_fc_Ground_hasPlace e2) rfl ⟨by decide +kernel, by decide⟩ (Nat.le_of_ble_eq_true rfl) ?_
  refine zg_if_eq (tgt := 47) dd_89_20 (by decide) (fun q3 => ?_) (fun q3 => ?_)
  · replace h := z_t h q3
    refine zg_iconst dd_89_47 kI_0 ?_
    refine zg_istore dd_89_48 (Nat.le_of_ble_eq_true rfl) (lv' := [(5, .inl (0 : Int32)), (4, .inr (.inr (some 23))), (0, .inr (.inr (some 0))), (1, .inl a1), (2, .inl a2), (3, .inl a3)]) rfl ?_
    refine zg_iload dd_89_50 (j := 0) rfl ?_
    refine zg_if_ne (tgt := 61) dd_89_52 (by decide) (fun q4 => absurd q4 (by decide)) (fun _ => ?_)
    refine zg_aload_n dd_89_55 rfl (j := 2) rfl ?_
    refine zg_iconst dd_89_56 kI_1 ?_
    obtain ⟨r5, e6, h⟩ := z_bd h
    refine zg_invV_i (av := [.inl (1 : Int32)]) (st := []) (n := 1) dd_89_57 ca_2 zw_430 zw_432 zv_0 zCs_0 zcl_11 rfl (mt_fc_T_refuse e6) rfl ⟨by decide +kernel, by decide⟩ (Nat.le_of_ble_eq_true rfl) ?_
    obtain rfl := Option.some.inj h
    exact zg_iret dd_89_60 rfl
  · replace h := z_f h q3
    refine zg_iload_n dd_89_23 rfl (j := 3) rfl ?_
    refine zg_iconst dd_89_24 kI_0 ?_
    refine zg_sipush dd_89_25 kS_9999 ?_
    obtain ⟨r7, e8, h⟩ := z_bd h
    refine zg_invS_i (av := [.inl a2, .inl (0 : Int32), .inl (9999 : Int32)]) (st := []) (n := 3) dd_89_28 ca_1 zw_427 zw_428 (mt_fc_T_within e8) rfl ⟨by decide +kernel, by decide⟩ (Nat.le_of_ble_eq_true rfl) ?_
    refine zg_if_eq (tgt := 47) dd_89_31 (by decide) (fun q9 => ?_) (fun q9 => ?_)
    · replace h := z_t h q9
      refine zg_iconst dd_89_47 kI_0 ?_
      refine zg_istore dd_89_48 (Nat.le_of_ble_eq_true rfl) (lv' := [(5, .inl (0 : Int32)), (4, .inr (.inr (some 23))), (0, .inr (.inr (some 0))), (1, .inl a1), (2, .inl a2), (3, .inl a3)]) rfl ?_
      refine zg_iload dd_89_50 (j := 0) rfl ?_
      refine zg_if_ne (tgt := 61) dd_89_52 (by decide) (fun q10 => absurd q10 (by decide)) (fun _ => ?_)
      refine zg_aload_n dd_89_55 rfl (j := 2) rfl ?_
      refine zg_iconst dd_89_56 kI_1 ?_
      obtain ⟨r11, e12, h⟩ := z_bd h
      refine zg_invV_i (av := [.inl (1 : Int32)]) (st := []) (n := 1) dd_89_57 ca_2 zw_430 zw_432 zv_0 zCs_0 zcl_11 rfl (mt_fc_T_refuse e12) rfl ⟨by decide +kernel, by decide⟩ (Nat.le_of_ble_eq_true rfl) ?_
      obtain rfl := Option.some.inj h
      exact zg_iret dd_89_60 rfl
    · replace h := z_f h q9
      refine zg_iload_n dd_89_34 rfl (j := 4) rfl ?_
      refine zg_iconst dd_89_35 kI_0 ?_
      refine zg_iconst dd_89_36 kI_1 ?_
      obtain ⟨r13, e14, h⟩ := z_bd h
      refine zg_invS_i (av := [.inl a3, .inl (0 : Int32), .inl (1 : Int32)]) (st := []) (n := 3) dd_89_37 ca_1 zw_427 zw_428 (mt_fc_T_within e14) rfl ⟨by decide +kernel, by decide⟩ (Nat.le_of_ble_eq_true rfl) ?_
      refine zg_if_eq (tgt := 47) dd_89_40 (by decide) (fun q15 => ?_) (fun q15 => ?_)
      · replace h := z_t h q15
        refine zg_iconst dd_89_47 kI_0 ?_
        refine zg_istore dd_89_48 (Nat.le_of_ble_eq_true rfl) (lv' := [(5, .inl (0 : Int32)), (4, .inr (.inr (some 23))), (0, .inr (.inr (some 0))), (1, .inl a1), (2, .inl a2), (3, .inl a3)]) rfl ?_
        refine zg_iload dd_89_50 (j := 0) rfl ?_
        refine zg_if_ne (tgt := 61) dd_89_52 (by decide) (fun q16 => absurd q16 (by decide)) (fun _ => ?_)
        refine zg_aload_n dd_89_55 rfl (j := 2) rfl ?_
        refine zg_iconst dd_89_56 kI_1 ?_
        obtain ⟨r17, e18, h⟩ := z_bd h
        refine zg_invV_i (av := [.inl (1 : Int32)]) (st := []) (n := 1) dd_89_57 ca_2 zw_430 zw_432 zv_0 zCs_0 zcl_11 rfl (mt_fc_T_refuse e18) rfl ⟨by decide +kernel, by decide⟩ (Nat.le_of_ble_eq_true rfl) ?_
        obtain rfl := Option.some.inj h
        exact zg_iret dd_89_60 rfl
      · replace h := z_f h q15
        refine zg_iconst dd_89_43 kI_1 ?_
        refine zg_goto (tgt := 48) dd_89_44 (by decide) ?_
        refine zg_istore dd_89_48 (Nat.le_of_ble_eq_true rfl) (lv' := [(5, .inl (1 : Int32)), (4, .inr (.inr (some 23))), (0, .inr (.inr (some 0))), (1, .inl a1), (2, .inl a2), (3, .inl a3)]) rfl ?_
        refine zg_iload dd_89_50 (j := 0) rfl ?_
        refine zg_if_ne (tgt := 61) dd_89_52 (by decide) (fun _ => ?_) (fun q19 => absurd q19 (by decide))
        refine zg_aload dd_89_61 (j := 1) rfl ?_
        refine zg_getI (x := (I 23 3)) dd_89_63 zl_T_282 zCs_23 rfl rfl ?_
        refine zg_bipush dd_89_66 kB_6 ?_
        refine zg_icmp_lt (tgt := 77) dd_89_68 (by decide) (fun q20 => ?_) (fun q20 => ?_)
        · replace h := z_t h q20
          refine zg_aload dd_89_77 (j := 1) rfl ?_
          refine zg_iload_n dd_89_79 rfl (j := 3) rfl ?_
          refine zg_iload_n dd_89_80 rfl (j := 4) rfl ?_
          refine zg_iload_n dd_89_81 rfl (j := 5) rfl ?_
          obtain ⟨r21, e22, h⟩ := z_bd h
          refine zg_invV_i (av := [.inl a1, .inl a2, .inl a3]) (st := []) (n := 3) dd_89_82 ca_90 zw_811 zw_812 zw_813 zCs_23 zcl_1 rfl (mt_fc_Folk_addThing e22) rfl ⟨by decide +kernel, by decide⟩ (Nat.le_of_ble_eq_true rfl) ?_
          obtain rfl := Option.some.inj h
          exact zg_iret dd_89_85 rfl
        · replace h := z_f h q20
          refine zg_aload_n dd_89_71 rfl (j := 2) rfl ?_
          refine zg_iconst dd_89_72 kI_4 ?_
          obtain ⟨r23, e24, h⟩ := z_bd h
          refine zg_invV_i (av := [.inl (4 : Int32)]) (st := []) (n := 1) dd_89_73 ca_2 zw_430 zw_432 zv_0 zCs_0 zcl_11 rfl (mt_fc_T_refuse e24) rfl ⟨by decide +kernel, by decide⟩ (Nat.le_of_ble_eq_true rfl) ?_
          obtain rfl := Option.some.inj h
          exact zg_iret dd_89_76 rfl
/-! TurnedLand$Folk.hasThing[23, None] -/
def fc_Folk_hasThing (I : zI) (a1 : Int32) : Option Int32 :=
  (fc_T_within I a1 (0 : Int32) ((I 23 3) - (1 : Int32))).bind fun r1 =>
  z_guard (zbb r1) <|
  some r1
set_option maxRecDepth 20000 in
theorem mt_fc_Folk_hasThing {I : zI} {a1 : Int32} {res : Int32} (h : fc_Folk_hasThing I a1 = some res) : zM 2 ym_92 [.inr (.inr (some 23)), .inl a1] (zCs, zCr, I) (some (.inl res)) (zCs, zCr, I) 0 0 := by
  refine zM_of (by decide) (Nat.le_of_ble_eq_true rfl) (lv := [(0, .inr (.inr (some 23))), (1, .inl a1)]) rfl ?_
  rw [fc_Folk_hasThing] at h
  refine zg_iload_n dd_92_0 rfl (j := 1) rfl ?_
  refine zg_iconst dd_92_1 kI_0 ?_
  refine zg_aload_n dd_92_2 rfl (j := 0) rfl ?_
  refine zg_getI (x := (I 23 3)) dd_92_3 zl_Folk_22 zCs_23 rfl rfl ?_
  refine zg_iconst dd_92_6 kI_1 ?_
  refine zg_isub dd_92_7 ?_
  obtain ⟨r1, e2, h⟩ := z_bd h
  refine zg_invSN_i (av := [.inl a1, .inl (0 : Int32), .inl ((I 23 3) - (1 : Int32))]) (st := []) (n := 3) dd_92_8 ca_1 (List.mem_of_getElem? (i := 15) rfl) zw_428 (mt_fc_T_within e2) rfl ⟨by decide +kernel, by decide⟩ (Nat.le_of_ble_eq_true rfl) ?_
  obtain ⟨g3, h⟩ := z_gd h
  obtain rfl := Option.some.inj h
  exact zg_zret dd_92_11 rfl (zSt_bb g3).1
/-! TurnedLand$Text.valueAt[40, None] -/
def fc_Text_valueAt_2 (I : zI) (a1 : Int32) : Option Int32 :=
  z_guard (zb a1 60) <|
  if (I 41 a1.toNatClampNeg) = 0 then
    some (I 42 a1.toNatClampNeg)
  else
    (fc_T_within I (I 42 a1.toNatClampNeg) (0 : Int32) (3 : Int32)).bind fun r3 =>
    if r3 = 0 then
      some (0 : Int32)
    else
      z_guard (zb (I 42 a1.toNatClampNeg) 4) <|
      some (I 44 (I 42 a1.toNatClampNeg).toNatClampNeg)
set_option maxRecDepth 20000 in
theorem mt_fc_Text_valueAt_2 {I : zI} {a1 : Int32} {res : Int32} (h : fc_Text_valueAt_2 I a1 = some res) : zM 2 ym_55 [.inr (.inr (some 40)), .inl a1] (zCs, zCr, I) (some (.inl res)) (zCs, zCr, I) 0 0 := by
  refine zM_of (by decide) (Nat.le_of_ble_eq_true rfl) (lv := [(0, .inr (.inr (some 40))), (1, .inl a1)]) rfl ?_
  rw [fc_Text_valueAt_2] at h
  refine zg_aload_n dd_55_0 rfl (j := 0) rfl ?_
  refine zg_getR dd_55_1 zl_Text_23 zCs_40 rfl zCr_40_3 ?_
  refine zg_iload_n dd_55_4 rfl (j := 1) rfl ?_
  obtain ⟨g1, h⟩ := z_gd h
  refine zg_iald (w := (I 42 a1.toNatClampNeg)) dd_55_5 zCs_42 g1 rfl ?_
  refine zg_istore_n dd_55_6 rfl (Nat.le_of_ble_eq_true rfl) (lv' := [(2, .inl (I 42 a1.toNatClampNeg)), (0, .inr (.inr (some 40))), (1, .inl a1)]) rfl ?_
  refine zg_aload_n dd_55_7 rfl (j := 1) rfl ?_
  refine zg_getR dd_55_8 zl_Text_19 zCs_40 rfl zCr_40_2 ?_
  refine zg_iload_n dd_55_11 rfl (j := 2) rfl ?_
  refine zg_iald (w := (I 41 a1.toNatClampNeg)) dd_55_12 zCs_41 g1 rfl ?_
  refine zg_if_ne (tgt := 18) dd_55_13 (by decide) (fun q2 => ?_) (fun q2 => ?_)
  · replace h := z_f h q2
    refine zg_iload_n dd_55_18 rfl (j := 0) rfl ?_
    refine zg_iconst dd_55_19 kI_0 ?_
    refine zg_iconst dd_55_20 kI_3 ?_
    obtain ⟨r3, e4, h⟩ := z_bd h
    refine zg_invSN_i (av := [.inl (I 42 a1.toNatClampNeg), .inl (0 : Int32), .inl (3 : Int32)]) (st := []) (n := 3) dd_55_21 ca_1 (List.mem_of_getElem? (i := 12) rfl) zw_428 (mt_fc_T_within e4) rfl ⟨by decide +kernel, by decide⟩ (Nat.le_of_ble_eq_true rfl) ?_
    refine zg_if_eq (tgt := 36) dd_55_24 (by decide) (fun q5 => ?_) (fun q5 => ?_)
    · replace h := z_t h q5
      refine zg_iconst dd_55_36 kI_0 ?_
      obtain rfl := Option.some.inj h
      exact zg_iret dd_55_37 rfl
    · replace h := z_f h q5
      refine zg_aload_n dd_55_27 rfl (j := 1) rfl ?_
      refine zg_getR dd_55_28 zl_Text_29 zCs_40 rfl zCr_40_5 ?_
      refine zg_iload_n dd_55_31 rfl (j := 0) rfl ?_
      obtain ⟨g6, h⟩ := z_gd h
      refine zg_iald (w := (I 44 (I 42 a1.toNatClampNeg).toNatClampNeg)) dd_55_32 zCs_44 g6 rfl ?_
      refine zg_goto (tgt := 37) dd_55_33 (by decide) ?_
      obtain rfl := Option.some.inj h
      exact zg_iret dd_55_37 rfl
  · replace h := z_t h q2
    refine zg_iload_n dd_55_16 rfl (j := 0) rfl ?_
    obtain rfl := Option.some.inj h
    exact zg_iret dd_55_17 rfl
/-! TurnedLand$Text.workOut[40, None, None, None, None] -/
def fc_Text_workOut_2_L35 : Nat → Int32 → Int32 → zI → Option (Int32 × zI)
  | 0, _, _, _ => none
  | nf + 1, v5, v6, I =>
    if (I 40 1) ≤ v6 then
      if v5 < (1 : Int32) then
        some ((0 : Int32), I)
      else
        z_guard (zb (v5 - (1 : Int32)) 60) <|
        some ((I 43 (v5 - (1 : Int32)).toNatClampNeg), I)
    else
      z_guard (zb v6 60) <|
      if (I 41 v6.toNatClampNeg) = 0 then
        if (60 : Int32) ≤ v5 then
          fc_Text_workOut_2_L35 nf v5 (v6 + (1 : Int32)) I
        else
          (fc_Text_valueAt_2 I v6).bind fun r7 =>
          z_guard (zb v5 60) <|
          fc_Text_workOut_2_L35 nf (v5 + (1 : Int32)) (v6 + (1 : Int32)) (zup I 43 v5.toNatClampNeg r7)
      else
        if (I 41 v6.toNatClampNeg) = (1 : Int32) then
          if (60 : Int32) ≤ v5 then
            fc_Text_workOut_2_L35 nf v5 (v6 + (1 : Int32)) I
          else
            (fc_Text_valueAt_2 I v6).bind fun r25 =>
            z_guard (zb v5 60) <|
            fc_Text_workOut_2_L35 nf (v5 + (1 : Int32)) (v6 + (1 : Int32)) (zup I 43 v5.toNatClampNeg r25)
        else
          if (I 41 v6.toNatClampNeg) = (33 : Int32) then
            if v5 < (1 : Int32) then
              fc_Text_workOut_2_L35 nf v5 (v6 + (1 : Int32)) I
            else
              z_guard (zb (v5 - (1 : Int32)) 60) <|
              if (I 43 (v5 - (1 : Int32)).toNatClampNeg) = 0 then
                (fc_Text_bit I (1 : Int32)).bind fun r22 =>
                fc_Text_workOut_2_L35 nf v5 (v6 + (1 : Int32)) (zup I 43 (v5 - (1 : Int32)).toNatClampNeg r22)
              else
                (fc_Text_bit I (0 : Int32)).bind fun r20 =>
                fc_Text_workOut_2_L35 nf v5 (v6 + (1 : Int32)) (zup I 43 (v5 - (1 : Int32)).toNatClampNeg r20)
          else
            if v5 < (2 : Int32) then
              fc_Text_workOut_2_L35 nf v5 (v6 + (1 : Int32)) I
            else
              z_guard (zb ((v5 + (-1 : Int32)) - (1 : Int32)) 60) <|
              z_guard (zb (v5 + (-1 : Int32)) 60) <|
              (fc_Text_combine I (I 41 v6.toNatClampNeg) (I 43 ((v5 + (-1 : Int32)) - (1 : Int32)).toNatClampNeg) (I 43 (v5 + (-1 : Int32)).toNatClampNeg)).bind fun r15 =>
              fc_Text_workOut_2_L35 nf (v5 + (-1 : Int32)) (v6 + (1 : Int32)) (zup I 43 ((v5 + (-1 : Int32)) - (1 : Int32)).toNatClampNeg r15)
def fc_Text_workOut_2 (I : zI) (a1 : Int32) (a2 : Int32) (a3 : Int32) (a4 : Int32) : Option (Int32 × zI) :=
  fc_Text_workOut_2_L35
    100 (0 : Int32) (0 : Int32) (zup (zup (zup (zup I 44 (0 : Int32).toNatClampNeg a1) 44 (1 : Int32).toNatClampNeg a2) 44 (2 : Int32).toNatClampNeg a3) 44 (3 : Int32).toNatClampNeg a4)
set_option maxRecDepth 20000 in
theorem lt_fc_Text_workOut_2_L35 {res : (Int32 × zI)} : ∀ (nf : Nat) (v5 : Int32) (v6 : Int32) (I : zI), fc_Text_workOut_2_L35 nf v5 v6 I = some res → zG 3 ym_54 0 0 (some (.inl res.1)) (zCs, zCr, res.2) zCs.length 35 [(0, .inr (.inr (some 40))), (5, .inl v5), (6, .inl v6)] [] (zCs, zCr, I) 0 0 := by
  intro nf
  induction nf with
  | zero =>
    intro v5 v6 I h
    have h2 : none = some res := h
    cases h2
  | succ nf ih =>
    intro v5 v6 I h
    rw [fc_Text_workOut_2_L35] at h
    refine zg_iload dd_54_35 (j := 2) rfl ?_
    refine zg_aload_n dd_54_37 rfl (j := 0) rfl ?_
    refine zg_getI (x := (I 40 1)) dd_54_38 zl_Text_15 zCs_40 rfl rfl ?_
    refine zg_icmp_ge (tgt := 180) dd_54_41 (by decide) (fun q1 => ?_) (fun q1 => ?_)
    · replace h := z_t h q1
      refine zg_iload dd_54_180 (j := 1) rfl ?_
      refine zg_iconst dd_54_182 kI_1 ?_
      refine zg_icmp_lt (tgt := 198) dd_54_183 (by decide) (fun q2 => ?_) (fun q2 => ?_)
      · replace h := z_t h q2
        refine zg_iconst dd_54_198 kI_0 ?_
        obtain rfl := Option.some.inj h
        exact zg_iret dd_54_199 rfl
      · replace h := z_f h q2
        refine zg_aload_n dd_54_186 rfl (j := 0) rfl ?_
        refine zg_getR dd_54_187 zl_Text_26 zCs_40 rfl zCr_40_4 ?_
        refine zg_iload dd_54_190 (j := 1) rfl ?_
        refine zg_iconst dd_54_192 kI_1 ?_
        refine zg_isub dd_54_193 ?_
        obtain ⟨g3, h⟩ := z_gd h
        refine zg_iald (w := (I 43 (v5 - (1 : Int32)).toNatClampNeg)) dd_54_194 zCs_43 g3 rfl ?_
        refine zg_goto (tgt := 199) dd_54_195 (by decide) ?_
        obtain rfl := Option.some.inj h
        exact zg_iret dd_54_199 rfl
    · replace h := z_f h q1
      refine zg_aload_n dd_54_44 rfl (j := 0) rfl ?_
      refine zg_getR dd_54_45 zl_Text_19 zCs_40 rfl zCr_40_2 ?_
      refine zg_iload dd_54_48 (j := 2) rfl ?_
      obtain ⟨g4, h⟩ := z_gd h
      refine zg_iald (w := (I 41 v6.toNatClampNeg)) dd_54_50 zCs_41 g4 rfl ?_
      refine zg_istore dd_54_51 (Nat.le_of_ble_eq_true rfl) (lv' := [(7, .inl (I 41 v6.toNatClampNeg)), (0, .inr (.inr (some 40))), (5, .inl v5), (6, .inl v6)]) rfl ?_
      refine zg_iload dd_54_53 (j := 0) rfl ?_
      refine zg_if_eq (tgt := 64) dd_54_55 (by decide) (fun q5 => ?_) (fun q5 => ?_)
      · replace h := z_t h q5
        refine zg_iload dd_54_64 (j := 2) rfl ?_
        refine zg_bipush dd_54_66 kB_60 ?_
        refine zg_icmp_ge (tgt := 174) dd_54_68 (by decide) (fun q6 => ?_) (fun q6 => ?_)
        · replace h := z_t h q6
          refine zg_iinc dd_54_174 (j := 3) rfl (v := (v6 + (1 : Int32))) (by rw [kI_1]) (Nat.le_of_ble_eq_true rfl) (lv' := [(6, .inl (v6 + (1 : Int32))), (7, .inl (I 41 v6.toNatClampNeg)), (0, .inr (.inr (some 40))), (5, .inl v5)]) rfl ?_
          refine zg_goto (tgt := 35) dd_54_177 (by decide) ?_
          refine zg_sub [2, 3, 0] rfl ?_
          exact ih _ _ _ h
        · replace h := z_f h q6
          refine zg_aload_n dd_54_71 rfl (j := 1) rfl ?_
          refine zg_getR dd_54_72 zl_Text_26 zCs_40 rfl zCr_40_4 ?_
          refine zg_iload dd_54_75 (j := 2) rfl ?_
          refine zg_iinc dd_54_77 (j := 2) rfl (v := (v5 + (1 : Int32))) (by rw [kI_1]) (Nat.le_of_ble_eq_true rfl) (lv' := [(5, .inl (v5 + (1 : Int32))), (7, .inl (I 41 v6.toNatClampNeg)), (0, .inr (.inr (some 40))), (6, .inl v6)]) rfl ?_
          refine zg_aload_n dd_54_80 rfl (j := 2) rfl ?_
          refine zg_iload dd_54_81 (j := 3) rfl ?_
          obtain ⟨r7, e8, h⟩ := z_bd h
          refine zg_invV_i (av := [.inl v6]) (st := [.inl v5, .inr (.inr (some 43))]) (n := 1) dd_54_83 ca_55 zw_653 zw_655 zv_17 zCs_40 zcl_5 rfl (mt_fc_Text_valueAt_2 e8) rfl ⟨by decide +kernel, by decide⟩ (Nat.le_of_ble_eq_true rfl) ?_
          obtain ⟨g9, h⟩ := z_gd h
          refine zg_iast dd_54_86 zCs_43 g9 ?_
          refine zg_goto (tgt := 174) dd_54_87 (by decide) ?_
          refine zg_iinc dd_54_174 (j := 3) rfl (v := (v6 + (1 : Int32))) (by rw [kI_1]) (Nat.le_of_ble_eq_true rfl) (lv' := [(6, .inl (v6 + (1 : Int32))), (5, .inl (v5 + (1 : Int32))), (7, .inl (I 41 v6.toNatClampNeg)), (0, .inr (.inr (some 40)))]) rfl ?_
          refine zg_goto (tgt := 35) dd_54_177 (by decide) ?_
          refine zg_sub [3, 1, 0] rfl ?_
          exact ih _ _ _ h
      · replace h := z_f h q5
        refine zg_iload dd_54_58 (j := 0) rfl ?_
        refine zg_iconst dd_54_60 kI_1 ?_
        refine zg_icmp_ne (tgt := 90) dd_54_61 (by decide) (fun q10 => ?_) (fun q10 => ?_)
        · replace h := z_f h q10
          refine zg_iload dd_54_90 (j := 0) rfl ?_
          refine zg_bipush dd_54_92 kB_33 ?_
          refine zg_icmp_ne (tgt := 135) dd_54_94 (by decide) (fun q11 => ?_) (fun q11 => ?_)
          · replace h := z_f h q11
            refine zg_iload dd_54_135 (j := 2) rfl ?_
            refine zg_iconst dd_54_137 kI_2 ?_
            refine zg_icmp_lt (tgt := 174) dd_54_138 (by decide) (fun q12 => ?_) (fun q12 => ?_)
            · replace h := z_t h q12
              refine zg_iinc dd_54_174 (j := 3) rfl (v := (v6 + (1 : Int32))) (by rw [kI_1]) (Nat.le_of_ble_eq_true rfl) (lv' := [(6, .inl (v6 + (1 : Int32))), (7, .inl (I 41 v6.toNatClampNeg)), (0, .inr (.inr (some 40))), (5, .inl v5)]) rfl ?_
              refine zg_goto (tgt := 35) dd_54_177 (by decide) ?_
              refine zg_sub [2, 3, 0] rfl ?_
              exact ih _ _ _ h
            · replace h := z_f h q12
              refine zg_iinc dd_54_141 (j := 2) rfl (v := (v5 + (-1 : Int32))) (by rw [kI_m1]) (Nat.le_of_ble_eq_true rfl) (lv' := [(5, .inl (v5 + (-1 : Int32))), (7, .inl (I 41 v6.toNatClampNeg)), (0, .inr (.inr (some 40))), (6, .inl v6)]) rfl ?_
              refine zg_aload_n dd_54_144 rfl (j := 2) rfl ?_
              refine zg_getR dd_54_145 zl_Text_26 zCs_40 rfl zCr_40_4 ?_
              refine zg_iload dd_54_148 (j := 0) rfl ?_
              refine zg_iconst dd_54_150 kI_1 ?_
              refine zg_isub dd_54_151 ?_
              refine zg_iload dd_54_152 (j := 1) rfl ?_
              refine zg_aload_n dd_54_154 rfl (j := 2) rfl ?_
              refine zg_getR dd_54_155 zl_Text_26 zCs_40 rfl zCr_40_4 ?_
              refine zg_iload dd_54_158 (j := 0) rfl ?_
              refine zg_iconst dd_54_160 kI_1 ?_
              refine zg_isub dd_54_161 ?_
              obtain ⟨g13, h⟩ := z_gd h
              refine zg_iald (w := (I 43 ((v5 + (-1 : Int32)) - (1 : Int32)).toNatClampNeg)) dd_54_162 zCs_43 g13 rfl ?_
              refine zg_aload_n dd_54_163 rfl (j := 2) rfl ?_
              refine zg_getR dd_54_164 zl_Text_26 zCs_40 rfl zCr_40_4 ?_
              refine zg_iload dd_54_167 (j := 0) rfl ?_
              obtain ⟨g14, h⟩ := z_gd h
              refine zg_iald (w := (I 43 (v5 + (-1 : Int32)).toNatClampNeg)) dd_54_169 zCs_43 g14 rfl ?_
              obtain ⟨r15, e16, h⟩ := z_bd h
              refine zg_invS_i (av := [.inl (I 41 v6.toNatClampNeg), .inl (I 43 ((v5 + (-1 : Int32)) - (1 : Int32)).toNatClampNeg), .inl (I 43 (v5 + (-1 : Int32)).toNatClampNeg)]) (st := [.inl ((v5 + (-1 : Int32)) - (1 : Int32)), .inr (.inr (some 43))]) (n := 3) dd_54_170 ca_56 zw_661 zw_662 (mt_fc_Text_combine e16) rfl ⟨by decide +kernel, by decide⟩ (Nat.le_of_ble_eq_true rfl) ?_
              refine zg_iast dd_54_173 zCs_43 g13 ?_
              refine zg_iinc dd_54_174 (j := 3) rfl (v := (v6 + (1 : Int32))) (by rw [kI_1]) (Nat.le_of_ble_eq_true rfl) (lv' := [(6, .inl (v6 + (1 : Int32))), (5, .inl (v5 + (-1 : Int32))), (7, .inl (I 41 v6.toNatClampNeg)), (0, .inr (.inr (some 40)))]) rfl ?_
              refine zg_goto (tgt := 35) dd_54_177 (by decide) ?_
              refine zg_sub [3, 1, 0] rfl ?_
              exact ih _ _ _ h
          · replace h := z_t h q11
            refine zg_iload dd_54_97 (j := 2) rfl ?_
            refine zg_iconst dd_54_99 kI_1 ?_
            refine zg_icmp_lt (tgt := 174) dd_54_100 (by decide) (fun q17 => ?_) (fun q17 => ?_)
            · replace h := z_t h q17
              refine zg_iinc dd_54_174 (j := 3) rfl (v := (v6 + (1 : Int32))) (by rw [kI_1]) (Nat.le_of_ble_eq_true rfl) (lv' := [(6, .inl (v6 + (1 : Int32))), (7, .inl (I 41 v6.toNatClampNeg)), (0, .inr (.inr (some 40))), (5, .inl v5)]) rfl ?_
              refine zg_goto (tgt := 35) dd_54_177 (by decide) ?_
              refine zg_sub [2, 3, 0] rfl ?_
              exact ih _ _ _ h
            · replace h := z_f h q17
              refine zg_aload_n dd_54_103 rfl (j := 1) rfl ?_
              refine zg_getR dd_54_104 zl_Text_26 zCs_40 rfl zCr_40_4 ?_
              refine zg_iload dd_54_107 (j := 2) rfl ?_
              refine zg_iconst dd_54_109 kI_1 ?_
              refine zg_isub dd_54_110 ?_
              refine zg_aload_n dd_54_111 rfl (j := 1) rfl ?_
              refine zg_getR dd_54_112 zl_Text_26 zCs_40 rfl zCr_40_4 ?_
              refine zg_iload dd_54_115 (j := 2) rfl ?_
              refine zg_iconst dd_54_117 kI_1 ?_
              refine zg_isub dd_54_118 ?_
              obtain ⟨g18, h⟩ := z_gd h
              refine zg_iald (w := (I 43 (v5 - (1 : Int32)).toNatClampNeg)) dd_54_119 zCs_43 g18 rfl ?_
              refine zg_if_ne (tgt := 127) dd_54_120 (by decide) (fun q19 => ?_) (fun q19 => ?_)
              · replace h := z_f h q19
                refine zg_iconst dd_54_127 kI_0 ?_
                obtain ⟨r20, e21, h⟩ := z_bd h
                refine zg_invS_i (av := [.inl (0 : Int32)]) (st := [.inl (v5 - (1 : Int32)), .inr (.inr (some 43))]) (n := 1) dd_54_128 ca_57 zw_658 zw_659 (mt_fc_Text_bit e21) rfl ⟨by decide +kernel, by decide⟩ (Nat.le_of_ble_eq_true rfl) ?_
                refine zg_iast dd_54_131 zCs_43 g18 ?_
                refine zg_goto (tgt := 174) dd_54_132 (by decide) ?_
                refine zg_iinc dd_54_174 (j := 3) rfl (v := (v6 + (1 : Int32))) (by rw [kI_1]) (Nat.le_of_ble_eq_true rfl) (lv' := [(6, .inl (v6 + (1 : Int32))), (7, .inl (I 41 v6.toNatClampNeg)), (0, .inr (.inr (some 40))), (5, .inl v5)]) rfl ?_
                refine zg_goto (tgt := 35) dd_54_177 (by decide) ?_
                refine zg_sub [2, 3, 0] rfl ?_
                exact ih _ _ _ h
              · replace h := z_t h q19
                refine zg_iconst dd_54_123 kI_1 ?_
                refine zg_goto (tgt := 128) dd_54_124 (by decide) ?_
                obtain ⟨r22, e23, h⟩ := z_bd h
                refine zg_invS_i (av := [.inl (1 : Int32)]) (st := [.inl (v5 - (1 : Int32)), .inr (.inr (some 43))]) (n := 1) dd_54_128 ca_57 zw_658 zw_659 (mt_fc_Text_bit e23) rfl ⟨by decide +kernel, by decide⟩ (Nat.le_of_ble_eq_true rfl) ?_
                refine zg_iast dd_54_131 zCs_43 g18 ?_
                refine zg_goto (tgt := 174) dd_54_132 (by decide) ?_
                refine zg_iinc dd_54_174 (j := 3) rfl (v := (v6 + (1 : Int32))) (by rw [kI_1]) (Nat.le_of_ble_eq_true rfl) (lv' := [(6, .inl (v6 + (1 : Int32))), (7, .inl (I 41 v6.toNatClampNeg)), (0, .inr (.inr (some 40))), (5, .inl v5)]) rfl ?_
                refine zg_goto (tgt := 35) dd_54_177 (by decide) ?_
                refine zg_sub [2, 3, 0] rfl ?_
                exact ih _ _ _ h
        · replace h := z_t h q10
          refine zg_iload dd_54_64 (j := 2) rfl ?_
          refine zg_bipush dd_54_66 kB_60 ?_
          refine zg_icmp_ge (tgt := 174) dd_54_68 (by decide) (fun q24 => ?_) (fun q24 => ?_)
          · replace h := z_t h q24
            refine zg_iinc dd_54_174 (j := 3) rfl (v := (v6 + (1 : Int32))) (by rw [kI_1]) (Nat.le_of_ble_eq_true rfl) (lv' := [(6, .inl (v6 + (1 : Int32))), (7, .inl (I 41 v6.toNatClampNeg)), (0, .inr (.inr (some 40))), (5, .inl v5)]) rfl ?_
            refine zg_goto (tgt := 35) dd_54_177 (by decide) ?_
            refine zg_sub [2, 3, 0] rfl ?_
            exact ih _ _ _ h
          · replace h := z_f h q24
            refine zg_aload_n dd_54_71 rfl (j := 1) rfl ?_
            refine zg_getR dd_54_72 zl_Text_26 zCs_40 rfl zCr_40_4 ?_
            refine zg_iload dd_54_75 (j := 2) rfl ?_
            refine zg_iinc dd_54_77 (j := 2) rfl (v := (v5 + (1 : Int32))) (by rw [kI_1]) (Nat.le_of_ble_eq_true rfl) (lv' := [(5, .inl (v5 + (1 : Int32))), (7, .inl (I 41 v6.toNatClampNeg)), (0, .inr (.inr (some 40))), (6, .inl v6)]) rfl ?_
            refine zg_aload_n dd_54_80 rfl (j := 2) rfl ?_
            refine zg_iload dd_54_81 (j := 3) rfl ?_
            obtain ⟨r25, e26, h⟩ := z_bd h
            refine zg_invV_i (av := [.inl v6]) (st := [.inl v5, .inr (.inr (some 43))]) (n := 1) dd_54_83 ca_55 zw_653 zw_655 zv_17 zCs_40 zcl_5 rfl (mt_fc_Text_valueAt_2 e26) rfl ⟨by decide +kernel, by decide⟩ (Nat.le_of_ble_eq_true rfl) ?_
            obtain ⟨g27, h⟩ := z_gd h
            refine zg_iast dd_54_86 zCs_43 g27 ?_
            refine zg_goto (tgt := 174) dd_54_87 (by decide) ?_
            refine zg_iinc dd_54_174 (j := 3) rfl (v := (v6 + (1 : Int32))) (by rw [kI_1]) (Nat.le_of_ble_eq_true rfl) (lv' := [(6, .inl (v6 + (1 : Int32))), (5, .inl (v5 + (1 : Int32))), (7, .inl (I 41 v6.toNatClampNeg)), (0, .inr (.inr (some 40)))]) rfl ?_
            refine zg_goto (tgt := 35) dd_54_177 (by decide) ?_
            refine zg_sub [3, 1, 0] rfl ?_
            exact ih _ _ _ h
set_option maxRecDepth 20000 in
theorem mt_fc_Text_workOut_2 {I : zI} {a1 : Int32} {a2 : Int32} {a3 : Int32} {a4 : Int32} {res : (Int32 × zI)} (h : fc_Text_workOut_2 I a1 a2 a3 a4 = some res) : zM 3 ym_54 [.inr (.inr (some 40)), .inl a1, .inl a2, .inl a3, .inl a4] (zCs, zCr, I) (some (.inl res.1)) (zCs, zCr, res.2) 0 0 := by
  refine zM_of (by decide) (Nat.le_of_ble_eq_true rfl) (lv := [(0, .inr (.inr (some 40))), (1, .inl a1), (2, .inl a2), (3, .inl a3), (4, .inl a4)]) rfl ?_
  rw [fc_Text_workOut_2] at h
  refine zg_aload_n dd_54_0 rfl (j := 0) rfl ?_
  refine zg_getR dd_54_1 zl_Text_29 zCs_40 rfl zCr_40_5 ?_
  refine zg_iconst dd_54_4 kI_0 ?_
  refine zg_iload_n dd_54_5 rfl (j := 1) rfl ?_
  refine zg_iast dd_54_6 zCs_44 (by decide) ?_
  refine zg_aload_n dd_54_7 rfl (j := 0) rfl ?_
  refine zg_getR dd_54_8 zl_Text_29 zCs_40 rfl zCr_40_5 ?_
  refine zg_iconst dd_54_11 kI_1 ?_
  refine zg_iload_n dd_54_12 rfl (j := 2) rfl ?_
  refine zg_iast dd_54_13 zCs_44 (by decide) ?_
  refine zg_aload_n dd_54_14 rfl (j := 0) rfl ?_
  refine zg_getR dd_54_15 zl_Text_29 zCs_40 rfl zCr_40_5 ?_
  refine zg_iconst dd_54_18 kI_2 ?_
  refine zg_iload_n dd_54_19 rfl (j := 3) rfl ?_
  refine zg_iast dd_54_20 zCs_44 (by decide) ?_
  refine zg_aload_n dd_54_21 rfl (j := 0) rfl ?_
  refine zg_getR dd_54_22 zl_Text_29 zCs_40 rfl zCr_40_5 ?_
  refine zg_iconst dd_54_25 kI_3 ?_
  refine zg_iload dd_54_26 (j := 4) rfl ?_
  refine zg_iast dd_54_28 zCs_44 (by decide) ?_
  refine zg_iconst dd_54_29 kI_0 ?_
  refine zg_istore dd_54_30 (Nat.le_of_ble_eq_true rfl) (lv' := [(5, .inl (0 : Int32)), (0, .inr (.inr (some 40))), (1, .inl a1), (2, .inl a2), (3, .inl a3), (4, .inl a4)]) rfl ?_
  refine zg_iconst dd_54_32 kI_0 ?_
  refine zg_istore dd_54_33 (Nat.le_of_ble_eq_true rfl) (lv' := [(6, .inl (0 : Int32)), (5, .inl (0 : Int32)), (0, .inr (.inr (some 40))), (1, .inl a1), (2, .inl a2), (3, .inl a3), (4, .inl a4)]) rfl ?_
  refine zg_sub [2, 1, 0] rfl ?_
  refine lt_fc_Text_workOut_2_L35  _ _ _ _ h
/-! TurnedLand$World.price[1, None, None, None] -/
def fc_World_price_J32 (I : zI) (v4 : Int32) (v5 : Int32) (x0 : Int32) : Option (Int32 × zI) :=
  if (I 40 0) = 0 then
    if (v5 ||| x0) = (1 : Int32) then
      some (v4, I)
    else
      some ((v4 / (2 : Int32)), I)
  else
    (fc_Text_workOut_2 I v4 v5 x0 (0 : Int32)).bind fun r4 =>
    (fc_T_held r4.2 r4.1 (0 : Int32) (9999 : Int32)).bind fun r6 =>
    some (r6, r4.2)
def fc_World_price (I : zI) (a1 : Int32) (a2 : Int32) (a3 : Int32) : Option (Int32 × zI) :=
  z_guard (zb a1 6) <|
  if a2 = a3 then
    fc_World_price_J32 I (I 27 a1.toNatClampNeg) (I 28 a1.toNatClampNeg) (1 : Int32)
  else
    fc_World_price_J32 I (I 27 a1.toNatClampNeg) (I 28 a1.toNatClampNeg) (0 : Int32)
set_option maxRecDepth 20000 in
theorem jt_fc_World_price_J32 {res : (Int32 × zI)} {I : zI} {v4 : Int32} {v5 : Int32} {x0 : Int32} (h : fc_World_price_J32 I v4 v5 x0 = some res) : zG 4 ym_93 0 0 (some (.inl res.1)) (zCs, zCr, res.2) zCs.length 32 [(0, .inr (.inr (some 1))), (4, .inl v4), (5, .inl v5)] [.inl x0] (zCs, zCr, I) 0 0 := by
  rw [fc_World_price_J32] at h
  refine zg_istore dd_93_32 (Nat.le_of_ble_eq_true rfl) (lv' := [(6, .inl x0), (0, .inr (.inr (some 1))), (4, .inl v4), (5, .inl v5)]) rfl ?_
  refine zg_aload_n dd_93_34 rfl (j := 1) rfl ?_
  refine zg_getR dd_93_35 zl_World_46 zCs_1 rfl zCr_1_5 ?_
  refine zg_getI (x := (I 40 0)) dd_93_38 zl_World_96 zCs_40 rfl rfl ?_
  refine zg_if_ne (tgt := 63) dd_93_41 (by decide) (fun q3 => ?_) (fun q3 => ?_)
  · replace h := z_f h q3
    refine zg_aload_n dd_93_63 rfl (j := 1) rfl ?_
    refine zg_getR dd_93_64 zl_World_46 zCs_1 rfl zCr_1_5 ?_
    refine zg_iload dd_93_67 (j := 2) rfl ?_
    refine zg_iload dd_93_69 (j := 3) rfl ?_
    refine zg_iload dd_93_71 (j := 0) rfl ?_
    refine zg_iconst dd_93_73 kI_0 ?_
    obtain ⟨r4, e5, h⟩ := z_bd h
    refine zg_invV_i (av := [.inl v4, .inl v5, .inl x0, .inl (0 : Int32)]) (st := []) (n := 4) dd_93_74 ca_54 zw_649 zw_650 zw_651 zCs_40 zcl_5 rfl (mt_fc_Text_workOut_2 e5) rfl ⟨by decide +kernel, by decide⟩ (Nat.le_of_ble_eq_true rfl) ?_
    refine zg_iconst dd_93_77 kI_0 ?_
    refine zg_sipush dd_93_78 kS_9999 ?_
    obtain ⟨r6, e7, h⟩ := z_bd h
    refine zg_invSN_i (av := [.inl r4.1, .inl (0 : Int32), .inl (9999 : Int32)]) (st := []) (n := 3) dd_93_81 ca_58 (List.mem_of_getElem? (i := 13) rfl) zw_665 (mt_fc_T_held e7) rfl ⟨by decide +kernel, by decide⟩ (Nat.le_of_ble_eq_true rfl) ?_
    obtain rfl := Option.some.inj h
    exact zg_iret dd_93_84 rfl
  · replace h := z_t h q3
    refine zg_iload dd_93_44 (j := 3) rfl ?_
    refine zg_iload dd_93_46 (j := 0) rfl ?_
    refine zg_ior dd_93_48 ?_
    refine zg_iconst dd_93_49 kI_1 ?_
    refine zg_icmp_ne (tgt := 58) dd_93_50 (by decide) (fun q8 => ?_) (fun q8 => ?_)
    · replace h := z_f h q8
      refine zg_iload dd_93_58 (j := 2) rfl ?_
      refine zg_iconst dd_93_60 kI_2 ?_
      refine zg_idiv dd_93_61 (by decide) ?_
      obtain rfl := Option.some.inj h
      exact zg_iret dd_93_62 rfl
    · replace h := z_t h q8
      refine zg_iload dd_93_53 (j := 2) rfl ?_
      refine zg_goto (tgt := 62) dd_93_55 (by decide) ?_
      obtain rfl := Option.some.inj h
      exact zg_iret dd_93_62 rfl
set_option maxRecDepth 20000 in
theorem mt_fc_World_price {I : zI} {a1 : Int32} {a2 : Int32} {a3 : Int32} {res : (Int32 × zI)} (h : fc_World_price I a1 a2 a3 = some res) : zM 4 ym_93 [.inr (.inr (some 1)), .inl a1, .inl a2, .inl a3] (zCs, zCr, I) (some (.inl res.1)) (zCs, zCr, res.2) 0 0 := by
  refine zM_of (by decide) (Nat.le_of_ble_eq_true rfl) (lv := [(0, .inr (.inr (some 1))), (1, .inl a1), (2, .inl a2), (3, .inl a3)]) rfl ?_
  rw [fc_World_price] at h
  refine zg_aload_n dd_93_0 rfl (j := 0) rfl ?_
  refine zg_getR dd_93_1 zl_World_28 zCs_1 rfl zCr_1_2 ?_
  refine zg_getR dd_93_4 zl_World_108 zCs_23 rfl zCr_23_5 ?_
  refine zg_iload_n dd_93_7 rfl (j := 1) rfl ?_
  obtain ⟨g1, h⟩ := z_gd h
  refine zg_iald (w := (I 27 a1.toNatClampNeg)) dd_93_8 zCs_27 g1 rfl ?_
  refine zg_istore dd_93_9 (Nat.le_of_ble_eq_true rfl) (lv' := [(4, .inl (I 27 a1.toNatClampNeg)), (0, .inr (.inr (some 1))), (1, .inl a1), (2, .inl a2), (3, .inl a3)]) rfl ?_
  refine zg_aload_n dd_93_11 rfl (j := 1) rfl ?_
  refine zg_getR dd_93_12 zl_World_28 zCs_1 rfl zCr_1_2 ?_
  refine zg_getR dd_93_15 zl_World_111 zCs_23 rfl zCr_23_6 ?_
  refine zg_iload_n dd_93_18 rfl (j := 2) rfl ?_
  refine zg_iald (w := (I 28 a1.toNatClampNeg)) dd_93_19 zCs_28 g1 rfl ?_
  refine zg_istore dd_93_20 (Nat.le_of_ble_eq_true rfl) (lv' := [(5, .inl (I 28 a1.toNatClampNeg)), (4, .inl (I 27 a1.toNatClampNeg)), (0, .inr (.inr (some 1))), (1, .inl a1), (2, .inl a2), (3, .inl a3)]) rfl ?_
  refine zg_iload_n dd_93_22 rfl (j := 4) rfl ?_
  refine zg_iload_n dd_93_23 rfl (j := 5) rfl ?_
  refine zg_icmp_ne (tgt := 31) dd_93_24 (by decide) (fun q2 => ?_) (fun q2 => ?_)
  · replace h := z_f h q2
    refine zg_iconst dd_93_31 kI_0 ?_
    refine zg_sub [2, 1, 0] rfl ?_
    exact jt_fc_World_price_J32 h
  · replace h := z_t h q2
    refine zg_iconst dd_93_27 kI_1 ?_
    refine zg_goto (tgt := 32) dd_93_28 (by decide) ?_
    refine zg_sub [2, 1, 0] rfl ?_
    exact jt_fc_World_price_J32 h
/-! TurnedLand.thingIs(0, None, None) -/
def fc_T_thingIs (I : zI) (a1 : Int32) (a2 : Int32) : Option (Int32 × zI) :=
  (fc_Folk_hasThing I a1).bind fun r1 =>
  if r1 = 0 then
    (fc_T_refuse I (1 : Int32)).bind fun r20 =>
    some (r20.1, r20.2)
  else
    if a2 = (0 : Int32) then
      z_guard (zb a1 6) <|
      some ((I 26 a1.toNatClampNeg), I)
    else if a2 = (1 : Int32) then
      z_guard (zb a1 6) <|
      some ((I 27 a1.toNatClampNeg), I)
    else if a2 = (2 : Int32) then
      z_guard (zb a1 6) <|
      some ((I 28 a1.toNatClampNeg), I)
    else if a2 = (3 : Int32) then
      z_guard (zb a1 6) <|
      (fc_World_price I a1 ((I 26 a1.toNatClampNeg) % (2 : Int32)) (0 : Int32)).bind fun r12 =>
      some (r12.1, r12.2)
    else if a2 = (4 : Int32) then
      z_guard (zb a1 6) <|
      (fc_World_price I a1 ((I 26 a1.toNatClampNeg) % (2 : Int32)) (1 : Int32)).bind fun r16 =>
      some (r16.1, r16.2)
    else
      (fc_T_refuse I (1 : Int32)).bind fun r18 =>
      some (r18.1, r18.2)
set_option maxRecDepth 20000 in
theorem mt_fc_T_thingIs {I : zI} {a1 : Int32} {a2 : Int32} {res : (Int32 × zI)} (h : fc_T_thingIs I a1 a2 = some res) : zM 5 ym_91 [.inr (.inr (some 0)), .inl a1, .inl a2] (zCs, zCr, I) (some (.inl res.1)) (zCs, zCr, res.2) 0 0 := by
  refine zM_of (by decide) (Nat.le_of_ble_eq_true rfl) (lv := [(0, .inr (.inr (some 0))), (1, .inl a1), (2, .inl a2)]) rfl ?_
  rw [fc_T_thingIs] at h
  refine zg_aload_n dd_91_0 rfl (j := 0) rfl ?_
  refine zg_getR dd_91_1 zl_T_12 zCs_0 rfl zCr_0_0 ?_
  refine zg_getR dd_91_4 zl_T_255 zCs_1 rfl zCr_1_2 ?_
  refine zg_astore_n dd_91_7 rfl (Nat.le_of_ble_eq_true rfl) (lv' := [(3, .inr (.inr (some 23))), (0, .inr (.inr (some 0))), (1, .inl a1), (2, .inl a2)]) rfl ?_
  refine zg_aload_n dd_91_8 rfl (j := 0) rfl ?_
  refine zg_iload_n dd_91_9 rfl (j := 2) rfl ?_
  obtain ⟨r1, e2, h⟩ := z_bd h
  refine zg_invV_i (av := [.inl a1]) (st := []) (n := 1) dd_91_10 ca_92 zw_819 zw_820 zw_821 zCs_23 zcl_1 rfl (mt_fc_Folk_hasThing e2) rfl ⟨by decide +kernel, by decide⟩ (Nat.le_of_ble_eq_true rfl) ?_
  refine zg_if_ne (tgt := 22) dd_91_13 (by decide) (fun q3 => ?_) (fun q3 => ?_)
  · replace h := z_f h q3
    refine zg_iload_n dd_91_22 rfl (j := 3) rfl ?_
    rcases z_if h with ⟨q4, h⟩ | ⟨q4, h⟩
    · refine zg_tabIn (tgt := 56) 33 dd_91_23 q4 (by decide) (by decide) (by decide) ?_
      refine zg_aload_n dd_91_56 rfl (j := 0) rfl ?_
      refine zg_getR dd_91_57 zl_T_291 zCs_23 rfl zCr_23_4 ?_
      refine zg_iload_n dd_91_60 rfl (j := 2) rfl ?_
      obtain ⟨g5, h⟩ := z_gd h
      refine zg_iald (w := (I 26 a1.toNatClampNeg)) dd_91_61 zCs_26 g5 rfl ?_
      obtain rfl := Option.some.inj h
      exact zg_iret dd_91_62 rfl
    rcases z_if h with ⟨q6, h⟩ | ⟨q6, h⟩
    · refine zg_tabIn (tgt := 63) 40 dd_91_23 q6 (by decide) (by decide) (by decide) ?_
      refine zg_aload_n dd_91_63 rfl (j := 0) rfl ?_
      refine zg_getR dd_91_64 zl_T_294 zCs_23 rfl zCr_23_5 ?_
      refine zg_iload_n dd_91_67 rfl (j := 2) rfl ?_
      obtain ⟨g7, h⟩ := z_gd h
      refine zg_iald (w := (I 27 a1.toNatClampNeg)) dd_91_68 zCs_27 g7 rfl ?_
      obtain rfl := Option.some.inj h
      exact zg_iret dd_91_69 rfl
    rcases z_if h with ⟨q8, h⟩ | ⟨q8, h⟩
    · refine zg_tabIn (tgt := 70) 47 dd_91_23 q8 (by decide) (by decide) (by decide) ?_
      refine zg_aload_n dd_91_70 rfl (j := 0) rfl ?_
      refine zg_getR dd_91_71 zl_T_297 zCs_23 rfl zCr_23_6 ?_
      refine zg_iload_n dd_91_74 rfl (j := 2) rfl ?_
      obtain ⟨g9, h⟩ := z_gd h
      refine zg_iald (w := (I 28 a1.toNatClampNeg)) dd_91_75 zCs_28 g9 rfl ?_
      obtain rfl := Option.some.inj h
      exact zg_iret dd_91_76 rfl
    rcases z_if h with ⟨q10, h⟩ | ⟨q10, h⟩
    · refine zg_tabIn (tgt := 77) 54 dd_91_23 q10 (by decide) (by decide) (by decide) ?_
      refine zg_aload_n dd_91_77 rfl (j := 1) rfl ?_
      refine zg_getR dd_91_78 zl_T_12 zCs_0 rfl zCr_0_0 ?_
      refine zg_iload_n dd_91_81 rfl (j := 2) rfl ?_
      refine zg_aload_n dd_91_82 rfl (j := 0) rfl ?_
      refine zg_getR dd_91_83 zl_T_291 zCs_23 rfl zCr_23_4 ?_
      refine zg_iload_n dd_91_86 rfl (j := 2) rfl ?_
      obtain ⟨g11, h⟩ := z_gd h
      refine zg_iald (w := (I 26 a1.toNatClampNeg)) dd_91_87 zCs_26 g11 rfl ?_
      refine zg_iconst dd_91_88 kI_2 ?_
      refine zg_irem dd_91_89 (by decide) ?_
      refine zg_iconst dd_91_90 kI_0 ?_
      obtain ⟨r12, e13, h⟩ := z_bd h
      refine zg_invV_i (av := [.inl a1, .inl ((I 26 a1.toNatClampNeg) % (2 : Int32)), .inl (0 : Int32)]) (st := []) (n := 3) dd_91_91 ca_93 zw_823 zw_824 zw_825 zCs_1 zcl_10 rfl (mt_fc_World_price e13) rfl ⟨by decide +kernel, by decide⟩ (Nat.le_of_ble_eq_true rfl) ?_
      obtain rfl := Option.some.inj h
      exact zg_iret dd_91_94 rfl
    rcases z_if h with ⟨q14, h⟩ | ⟨q14, h⟩
    · refine zg_tabIn (tgt := 95) 72 dd_91_23 q14 (by decide) (by decide) (by decide) ?_
      refine zg_aload_n dd_91_95 rfl (j := 1) rfl ?_
      refine zg_getR dd_91_96 zl_T_12 zCs_0 rfl zCr_0_0 ?_
      refine zg_iload_n dd_91_99 rfl (j := 2) rfl ?_
      refine zg_aload_n dd_91_100 rfl (j := 0) rfl ?_
      refine zg_getR dd_91_101 zl_T_291 zCs_23 rfl zCr_23_4 ?_
      refine zg_iload_n dd_91_104 rfl (j := 2) rfl ?_
      obtain ⟨g15, h⟩ := z_gd h
      refine zg_iald (w := (I 26 a1.toNatClampNeg)) dd_91_105 zCs_26 g15 rfl ?_
      refine zg_iconst dd_91_106 kI_2 ?_
      refine zg_irem dd_91_107 (by decide) ?_
      refine zg_iconst dd_91_108 kI_1 ?_
      obtain ⟨r16, e17, h⟩ := z_bd h
      refine zg_invV_i (av := [.inl a1, .inl ((I 26 a1.toNatClampNeg) % (2 : Int32)), .inl (1 : Int32)]) (st := []) (n := 3) dd_91_109 ca_93 zw_823 zw_824 zw_825 zCs_1 zcl_10 rfl (mt_fc_World_price e17) rfl ⟨by decide +kernel, by decide⟩ (Nat.le_of_ble_eq_true rfl) ?_
      obtain rfl := Option.some.inj h
      exact zg_iret dd_91_112 rfl
    refine zg_tabOut (tgt := 113) [(0 : Int32), (1 : Int32), (2 : Int32), (3 : Int32), (4 : Int32)] dd_91_23 (by decide +kernel) (by simp only [List.mem_cons, List.not_mem_nil, or_false]; rintro _ (rfl | rfl | rfl | rfl | rfl) <;> assumption) (by decide) ?_
    refine zg_aload_n dd_91_113 rfl (j := 1) rfl ?_
    refine zg_iconst dd_91_114 kI_1 ?_
    obtain ⟨r18, e19, h⟩ := z_bd h
    refine zg_invV_i (av := [.inl (1 : Int32)]) (st := []) (n := 1) dd_91_115 ca_2 zw_430 zw_432 zv_0 zCs_0 zcl_11 rfl (mt_fc_T_refuse e19) rfl ⟨by decide +kernel, by decide⟩ (Nat.le_of_ble_eq_true rfl) ?_
    obtain rfl := Option.some.inj h
    exact zg_iret dd_91_118 rfl
  · replace h := z_t h q3
    refine zg_aload_n dd_91_16 rfl (j := 1) rfl ?_
    refine zg_iconst dd_91_17 kI_1 ?_
    obtain ⟨r20, e21, h⟩ := z_bd h
    refine zg_invV_i (av := [.inl (1 : Int32)]) (st := []) (n := 1) dd_91_18 ca_2 zw_430 zw_432 zv_0 zCs_0 zcl_11 rfl (mt_fc_T_refuse e21) rfl ⟨by decide +kernel, by decide⟩ (Nat.le_of_ble_eq_true rfl) ?_
    obtain rfl := Option.some.inj h
    exact zg_iret dd_91_21 rfl
/-! TurnedLand$Ways.sooner[104, None] -/
def fc_Ways_sooner (I : zI) (a1 : Int32) : Option Int32 :=
  z_guard (zb ((2 : Int32) * a1) 16) <|
  z_guard (zb (((2 : Int32) * a1) + (1 : Int32)) 16) <|
  if 0 ≤ (I 105 ((2 : Int32) * a1).toNatClampNeg) then
    if (I 105 ((2 : Int32) * a1).toNatClampNeg) < 0 then
      some (((2 : Int32) * a1) + (1 : Int32))
    else
      if (I 105 (((2 : Int32) * a1) + (1 : Int32)).toNatClampNeg) < 0 then
        some ((2 : Int32) * a1)
      else
        if (I 105 ((2 : Int32) * a1).toNatClampNeg) ≤ (I 105 (((2 : Int32) * a1) + (1 : Int32)).toNatClampNeg) then
          some ((2 : Int32) * a1)
        else
          some (((2 : Int32) * a1) + (1 : Int32))
  else
    if 0 ≤ (I 105 (((2 : Int32) * a1) + (1 : Int32)).toNatClampNeg) then
      if (I 105 ((2 : Int32) * a1).toNatClampNeg) < 0 then
        some (((2 : Int32) * a1) + (1 : Int32))
      else
        if (I 105 (((2 : Int32) * a1) + (1 : Int32)).toNatClampNeg) < 0 then
          some ((2 : Int32) * a1)
        else
          if (I 105 ((2 : Int32) * a1).toNatClampNeg) ≤ (I 105 (((2 : Int32) * a1) + (1 : Int32)).toNatClampNeg) then
            some ((2 : Int32) * a1)
          else
            some (((2 : Int32) * a1) + (1 : Int32))
    else
      some (-1 : Int32)
set_option maxRecDepth 20000 in
theorem mt_fc_Ways_sooner {I : zI} {a1 : Int32} {res : Int32} (h : fc_Ways_sooner I a1 = some res) : zM 1 ym_95 [.inr (.inr (some 104)), .inl a1] (zCs, zCr, I) (some (.inl res)) (zCs, zCr, I) 0 0 := by
  refine zM_of (by decide) (Nat.le_of_ble_eq_true rfl) (lv := [(0, .inr (.inr (some 104))), (1, .inl a1)]) rfl ?_
  rw [fc_Ways_sooner] at h
  refine zg_aload_n dd_95_0 rfl (j := 0) rfl ?_
  refine zg_getR dd_95_1 zl_Ways_9 zCs_104 rfl zCr_104_0 ?_
  refine zg_iconst dd_95_4 kI_2 ?_
  refine zg_iload_n dd_95_5 rfl (j := 1) rfl ?_
  refine zg_imul dd_95_6 ?_
  obtain ⟨g1, h⟩ := z_gd h
  refine zg_iald (w := (I 105 ((2 : Int32) * a1).toNatClampNeg)) dd_95_7 zCs_105 g1 rfl ?_
  refine zg_istore_n dd_95_8 rfl (Nat.le_of_ble_eq_true rfl) (lv' := [(2, .inl (I 105 ((2 : Int32) * a1).toNatClampNeg)), (0, .inr (.inr (some 104))), (1, .inl a1)]) rfl ?_
  refine zg_aload_n dd_95_9 rfl (j := 1) rfl ?_
  refine zg_getR dd_95_10 zl_Ways_9 zCs_104 rfl zCr_104_0 ?_
  refine zg_iconst dd_95_13 kI_2 ?_
  refine zg_iload_n dd_95_14 rfl (j := 2) rfl ?_
  refine zg_imul dd_95_15 ?_
  refine zg_iconst dd_95_16 kI_1 ?_
  refine zg_iadd dd_95_17 ?_
  obtain ⟨g2, h⟩ := z_gd h
  refine zg_iald (w := (I 105 (((2 : Int32) * a1) + (1 : Int32)).toNatClampNeg)) dd_95_18 zCs_105 g2 rfl ?_
  refine zg_istore_n dd_95_19 rfl (Nat.le_of_ble_eq_true rfl) (lv' := [(3, .inl (I 105 (((2 : Int32) * a1) + (1 : Int32)).toNatClampNeg)), (2, .inl (I 105 ((2 : Int32) * a1).toNatClampNeg)), (0, .inr (.inr (some 104))), (1, .inl a1)]) rfl ?_
  refine zg_iload_n dd_95_20 rfl (j := 1) rfl ?_
  refine zg_if_ge (tgt := 30) dd_95_21 (by decide) (fun q3 => ?_) (fun q3 => ?_)
  · replace h := z_t h q3
    refine zg_iload_n dd_95_30 rfl (j := 1) rfl ?_
    refine zg_if_lt (tgt := 43) dd_95_31 (by decide) (fun q4 => ?_) (fun q4 => ?_)
    · replace h := z_t h q4
      refine zg_iconst dd_95_43 kI_1 ?_
      refine zg_goto (tgt := 48) dd_95_44 (by decide) ?_
      refine zg_istore dd_95_48 (Nat.le_of_ble_eq_true rfl) (lv' := [(4, .inl (1 : Int32)), (3, .inl (I 105 (((2 : Int32) * a1) + (1 : Int32)).toNatClampNeg)), (2, .inl (I 105 ((2 : Int32) * a1).toNatClampNeg)), (0, .inr (.inr (some 104))), (1, .inl a1)]) rfl ?_
      refine zg_iload dd_95_50 (j := 0) rfl ?_
      refine zg_if_eq (tgt := 63) dd_95_52 (by decide) (fun q5 => absurd q5 (by decide)) (fun _ => ?_)
      refine zg_iconst dd_95_55 kI_2 ?_
      refine zg_iload_n dd_95_56 rfl (j := 4) rfl ?_
      refine zg_imul dd_95_57 ?_
      refine zg_iconst dd_95_58 kI_1 ?_
      refine zg_iadd dd_95_59 ?_
      refine zg_goto (tgt := 66) dd_95_60 (by decide) ?_
      obtain rfl := Option.some.inj h
      exact zg_iret dd_95_66 rfl
    · replace h := z_f h q4
      refine zg_iload_n dd_95_34 rfl (j := 0) rfl ?_
      refine zg_if_lt (tgt := 47) dd_95_35 (by decide) (fun q6 => ?_) (fun q6 => ?_)
      · replace h := z_t h q6
        refine zg_iconst dd_95_47 kI_0 ?_
        refine zg_istore dd_95_48 (Nat.le_of_ble_eq_true rfl) (lv' := [(4, .inl (0 : Int32)), (3, .inl (I 105 (((2 : Int32) * a1) + (1 : Int32)).toNatClampNeg)), (2, .inl (I 105 ((2 : Int32) * a1).toNatClampNeg)), (0, .inr (.inr (some 104))), (1, .inl a1)]) rfl ?_
        refine zg_iload dd_95_50 (j := 0) rfl ?_
        refine zg_if_eq (tgt := 63) dd_95_52 (by decide) (fun _ => ?_) (fun q7 => absurd q7 (by decide))
        refine zg_iconst dd_95_63 kI_2 ?_
        refine zg_iload_n dd_95_64 rfl (j := 4) rfl ?_
        refine zg_imul dd_95_65 ?_
        obtain rfl := Option.some.inj h
        exact zg_iret dd_95_66 rfl
      · replace h := z_f h q6
        refine zg_iload_n dd_95_38 rfl (j := 0) rfl ?_
        refine zg_iload_n dd_95_39 rfl (j := 1) rfl ?_
        refine zg_icmp_ge (tgt := 47) dd_95_40 (by decide) (fun q8 => ?_) (fun q8 => ?_)
        · replace h := z_t h q8
          refine zg_iconst dd_95_47 kI_0 ?_
          refine zg_istore dd_95_48 (Nat.le_of_ble_eq_true rfl) (lv' := [(4, .inl (0 : Int32)), (3, .inl (I 105 (((2 : Int32) * a1) + (1 : Int32)).toNatClampNeg)), (2, .inl (I 105 ((2 : Int32) * a1).toNatClampNeg)), (0, .inr (.inr (some 104))), (1, .inl a1)]) rfl ?_
          refine zg_iload dd_95_50 (j := 0) rfl ?_
          refine zg_if_eq (tgt := 63) dd_95_52 (by decide) (fun _ => ?_) (fun q9 => absurd q9 (by decide))
          refine zg_iconst dd_95_63 kI_2 ?_
          refine zg_iload_n dd_95_64 rfl (j := 4) rfl ?_
          refine zg_imul dd_95_65 ?_
          obtain rfl := Option.some.inj h
          exact zg_iret dd_95_66 rfl
        · replace h := z_f h q8
          refine zg_iconst dd_95_43 kI_1 ?_
          refine zg_goto (tgt := 48) dd_95_44 (by decide) ?_
          refine zg_istore dd_95_48 (Nat.le_of_ble_eq_true rfl) (lv' := [(4, .inl (1 : Int32)), (3, .inl (I 105 (((2 : Int32) * a1) + (1 : Int32)).toNatClampNeg)), (2, .inl (I 105 ((2 : Int32) * a1).toNatClampNeg)), (0, .inr (.inr (some 104))), (1, .inl a1)]) rfl ?_
          refine zg_iload dd_95_50 (j := 0) rfl ?_
          refine zg_if_eq (tgt := 63) dd_95_52 (by decide) (fun q10 => absurd q10 (by decide)) (fun _ => ?_)
          refine zg_iconst dd_95_55 kI_2 ?_
          refine zg_iload_n dd_95_56 rfl (j := 4) rfl ?_
          refine zg_imul dd_95_57 ?_
          refine zg_iconst dd_95_58 kI_1 ?_
          refine zg_iadd dd_95_59 ?_
          refine zg_goto (tgt := 66) dd_95_60 (by decide) ?_
          obtain rfl := Option.some.inj h
          exact zg_iret dd_95_66 rfl
  · replace h := z_f h q3
    refine zg_iload_n dd_95_24 rfl (j := 0) rfl ?_
    refine zg_if_ge (tgt := 30) dd_95_25 (by decide) (fun q11 => ?_) (fun q11 => ?_)
    · replace h := z_t h q11
      refine zg_iload_n dd_95_30 rfl (j := 1) rfl ?_
      refine zg_if_lt (tgt := 43) dd_95_31 (by decide) (fun q12 => ?_) (fun q12 => ?_)
      · replace h := z_t h q12
        refine zg_iconst dd_95_43 kI_1 ?_
        refine zg_goto (tgt := 48) dd_95_44 (by decide) ?_
        refine zg_istore dd_95_48 (Nat.le_of_ble_eq_true rfl) (lv' := [(4, .inl (1 : Int32)), (3, .inl (I 105 (((2 : Int32) * a1) + (1 : Int32)).toNatClampNeg)), (2, .inl (I 105 ((2 : Int32) * a1).toNatClampNeg)), (0, .inr (.inr (some 104))), (1, .inl a1)]) rfl ?_
        refine zg_iload dd_95_50 (j := 0) rfl ?_
        refine zg_if_eq (tgt := 63) dd_95_52 (by decide) (fun q13 => absurd q13 (by decide)) (fun _ => ?_)
        refine zg_iconst dd_95_55 kI_2 ?_
        refine zg_iload_n dd_95_56 rfl (j := 4) rfl ?_
        refine zg_imul dd_95_57 ?_
        refine zg_iconst dd_95_58 kI_1 ?_
        refine zg_iadd dd_95_59 ?_
        refine zg_goto (tgt := 66) dd_95_60 (by decide) ?_
        obtain rfl := Option.some.inj h
        exact zg_iret dd_95_66 rfl
      · replace h := z_f h q12
        refine zg_iload_n dd_95_34 rfl (j := 0) rfl ?_
        refine zg_if_lt (tgt := 47) dd_95_35 (by decide) (fun q14 => ?_) (fun q14 => ?_)
        · replace h := z_t h q14
          refine zg_iconst dd_95_47 kI_0 ?_
          refine zg_istore dd_95_48 (Nat.le_of_ble_eq_true rfl) (lv' := [(4, .inl (0 : Int32)), (3, .inl (I 105 (((2 : Int32) * a1) + (1 : Int32)).toNatClampNeg)), (2, .inl (I 105 ((2 : Int32) * a1).toNatClampNeg)), (0, .inr (.inr (some 104))), (1, .inl a1)]) rfl ?_
          refine zg_iload dd_95_50 (j := 0) rfl ?_
          refine zg_if_eq (tgt := 63) dd_95_52 (by decide) (fun _ => ?_) (fun q15 => absurd q15 (by decide))
          refine zg_iconst dd_95_63 kI_2 ?_
          refine zg_iload_n dd_95_64 rfl (j := 4) rfl ?_
          refine zg_imul dd_95_65 ?_
          obtain rfl := Option.some.inj h
          exact zg_iret dd_95_66 rfl
        · replace h := z_f h q14
          refine zg_iload_n dd_95_38 rfl (j := 0) rfl ?_
          refine zg_iload_n dd_95_39 rfl (j := 1) rfl ?_
          refine zg_icmp_ge (tgt := 47) dd_95_40 (by decide) (fun q16 => ?_) (fun q16 => ?_)
          · replace h := z_t h q16
            refine zg_iconst dd_95_47 kI_0 ?_
            refine zg_istore dd_95_48 (Nat.le_of_ble_eq_true rfl) (lv' := [(4, .inl (0 : Int32)), (3, .inl (I 105 (((2 : Int32) * a1) + (1 : Int32)).toNatClampNeg)), (2, .inl (I 105 ((2 : Int32) * a1).toNatClampNeg)), (0, .inr (.inr (some 104))), (1, .inl a1)]) rfl ?_
            refine zg_iload dd_95_50 (j := 0) rfl ?_
            refine zg_if_eq (tgt := 63) dd_95_52 (by decide) (fun _ => ?_) (fun q17 => absurd q17 (by decide))
            refine zg_iconst dd_95_63 kI_2 ?_
            refine zg_iload_n dd_95_64 rfl (j := 4) rfl ?_
            refine zg_imul dd_95_65 ?_
            obtain rfl := Option.some.inj h
            exact zg_iret dd_95_66 rfl
          · replace h := z_f h q16
            refine zg_iconst dd_95_43 kI_1 ?_
            refine zg_goto (tgt := 48) dd_95_44 (by decide) ?_
            refine zg_istore dd_95_48 (Nat.le_of_ble_eq_true rfl) (lv' := [(4, .inl (1 : Int32)), (3, .inl (I 105 (((2 : Int32) * a1) + (1 : Int32)).toNatClampNeg)), (2, .inl (I 105 ((2 : Int32) * a1).toNatClampNeg)), (0, .inr (.inr (some 104))), (1, .inl a1)]) rfl ?_
            refine zg_iload dd_95_50 (j := 0) rfl ?_
            refine zg_if_eq (tgt := 63) dd_95_52 (by decide) (fun q18 => absurd q18 (by decide)) (fun _ => ?_)
            refine zg_iconst dd_95_55 kI_2 ?_
            refine zg_iload_n dd_95_56 rfl (j := 4) rfl ?_
            refine zg_imul dd_95_57 ?_
            refine zg_iconst dd_95_58 kI_1 ?_
            refine zg_iadd dd_95_59 ?_
            refine zg_goto (tgt := 66) dd_95_60 (by decide) ?_
            obtain rfl := Option.some.inj h
            exact zg_iret dd_95_66 rfl
    · replace h := z_f h q11
      refine zg_iconst dd_95_28 kI_m1 ?_
      obtain rfl := Option.some.inj h
      exact zg_iret dd_95_29 rfl
/-! TurnedLand.bring(0, None) -/
def fc_T_bring_L41 : Nat → Int32 → Int32 → Int32 → Int32 → zI → Option (Int32 × zI)
  | 0, _, _, _, _, _ => none
  | nf + 1, v1, v3, v4, v5, I =>
    if (I 23 3) ≤ v5 then
      if 0 ≤ v3 then
        some (v3, I)
      else
        (fc_T_refuse I (2 : Int32)).bind fun r8 =>
        some (r8.1, r8.2)
    else
      z_guard (zb v5 6) <|
      (fc_Ways_spread I (I 26 v5.toNatClampNeg)).bind fun r11 =>
      z_guard (zb v1 6) <|
      (fc_Ways_sooner r11 ((r11 24 v1.toNatClampNeg) / (2 : Int32))).bind fun r14 =>
      if r14 = (-1 : Int32) then
        fc_T_bring_L41 nf v1 v3 v4 (v5 + (1 : Int32)) r11
      else
        (fc_World_price r11 v5 (r14 % (2 : Int32)) ((r11 24 v1.toNatClampNeg) % (2 : Int32))).bind fun r17 =>
        z_guard (zb r14 16) <|
        if v3 < 0 then
          fc_T_bring_L41 nf v1 v5 (r17.1 - (r17.2 105 r14.toNatClampNeg)) (v5 + (1 : Int32)) r17.2
        else
          if (r17.1 - (r17.2 105 r14.toNatClampNeg)) ≤ v4 then
            fc_T_bring_L41 nf v1 v3 v4 (v5 + (1 : Int32)) r17.2
          else
            fc_T_bring_L41 nf v1 v5 (r17.1 - (r17.2 105 r14.toNatClampNeg)) (v5 + (1 : Int32)) r17.2
def fc_T_bring (I : zI) (a1 : Int32) : Option (Int32 × zI) :=
  (fc_Folk_hasPerson I a1).bind fun r1 =>
  if r1 = 0 then
    (fc_T_refuse I (1 : Int32)).bind fun r22 =>
    some (r22.1, r22.2)
  else
    (fc_Ways_survey I).bind fun r4 =>
    fc_T_bring_L41
      100 a1 (-1 : Int32) (0 : Int32) (0 : Int32) r4
set_option maxRecDepth 20000 in
theorem lt_fc_T_bring_L41 {res : (Int32 × zI)} : ∀ (nf : Nat) (v1 : Int32) (v3 : Int32) (v4 : Int32) (v5 : Int32) (I : zI), fc_T_bring_L41 nf v1 v3 v4 v5 I = some res → zG 6 ym_94 0 0 (some (.inl res.1)) (zCs, zCr, res.2) zCs.length 41 [(0, .inr (.inr (some 0))), (1, .inl v1), (2, .inr (.inr (some 23))), (3, .inl v3), (4, .inl v4), (5, .inl v5)] [] (zCs, zCr, I) 0 0 := by
  intro nf
  induction nf with
  | zero =>
    intro v1 v3 v4 v5 I h
    have h2 : none = some res := h
    cases h2
  | succ nf ih =>
    intro v1 v3 v4 v5 I h
    rw [fc_T_bring_L41] at h
    refine zg_iload dd_94_41 (j := 5) rfl ?_
    refine zg_aload_n dd_94_43 rfl (j := 2) rfl ?_
    refine zg_getI (x := (I 23 3)) dd_94_44 zl_T_282 zCs_23 rfl rfl ?_
    refine zg_icmp_ge (tgt := 148) dd_94_47 (by decide) (fun q6 => ?_) (fun q6 => ?_)
    · replace h := z_t h q6
      refine zg_iload_n dd_94_148 rfl (j := 3) rfl ?_
      refine zg_if_ge (tgt := 160) dd_94_149 (by decide) (fun q7 => ?_) (fun q7 => ?_)
      · replace h := z_t h q7
        refine zg_iload_n dd_94_160 rfl (j := 3) rfl ?_
        obtain rfl := Option.some.inj h
        exact zg_iret dd_94_161 rfl
      · replace h := z_f h q7
        refine zg_aload_n dd_94_152 rfl (j := 0) rfl ?_
        refine zg_iconst dd_94_153 kI_2 ?_
        obtain ⟨r8, e9, h⟩ := z_bd h
        refine zg_invV_i (av := [.inl (2 : Int32)]) (st := []) (n := 1) dd_94_154 ca_2 zw_430 zw_432 zv_0 zCs_0 zcl_11 rfl (mt_fc_T_refuse e9) rfl ⟨by decide +kernel, by decide⟩ (Nat.le_of_ble_eq_true rfl) ?_
        refine zg_goto (tgt := 161) dd_94_157 (by decide) ?_
        obtain rfl := Option.some.inj h
        exact zg_iret dd_94_161 rfl
    · replace h := z_f h q6
      refine zg_aload_n dd_94_50 rfl (j := 0) rfl ?_
      refine zg_getR dd_94_51 zl_T_48 zCs_0 rfl zCr_0_8 ?_
      refine zg_aload_n dd_94_54 rfl (j := 2) rfl ?_
      refine zg_getR dd_94_55 zl_T_291 zCs_23 rfl zCr_23_4 ?_
      refine zg_iload dd_94_58 (j := 5) rfl ?_
      obtain ⟨g10, h⟩ := z_gd h
      refine zg_iald (w := (I 26 v5.toNatClampNeg)) dd_94_60 zCs_26 g10 rfl ?_
      obtain ⟨r11, e12, h⟩ := z_bd h
      refine zg_invV_v (av := [.inl (I 26 v5.toNatClampNeg)]) (st := []) (n := 1) dd_94_61 ca_59 zw_673 zw_674 zw_675 zCs_104 zcl_9 rfl (mt_fc_Ways_spread e12) rfl ⟨by decide +kernel, by decide⟩ (Nat.le_of_ble_eq_true rfl) ?_
      refine zg_aload_n dd_94_64 rfl (j := 0) rfl ?_
      refine zg_getR dd_94_65 zl_T_48 zCs_0 rfl zCr_0_8 ?_
      refine zg_aload_n dd_94_68 rfl (j := 2) rfl ?_
      refine zg_getR dd_94_69 zl_T_264 zCs_23 rfl zCr_23_1 ?_
      refine zg_iload_n dd_94_72 rfl (j := 1) rfl ?_
      obtain ⟨g13, h⟩ := z_gd h
      refine zg_iald (w := (r11 24 v1.toNatClampNeg)) dd_94_73 zCs_24 g13 rfl ?_
      refine zg_iconst dd_94_74 kI_2 ?_
      refine zg_idiv dd_94_75 (by decide) ?_
      obtain ⟨r14, e15, h⟩ := z_bd h
      refine zg_invV_i (av := [.inl ((r11 24 v1.toNatClampNeg) / (2 : Int32))]) (st := []) (n := 1) dd_94_76 ca_95 zw_831 zw_832 zw_833 zCs_104 zcl_9 rfl (mt_fc_Ways_sooner e15) rfl ⟨by decide +kernel, by decide⟩ (Nat.le_of_ble_eq_true rfl) ?_
      refine zg_istore dd_94_79 (Nat.le_of_ble_eq_true rfl) (lv' := [(6, .inl r14), (0, .inr (.inr (some 0))), (1, .inl v1), (2, .inr (.inr (some 23))), (3, .inl v3), (4, .inl v4), (5, .inl v5)]) rfl ?_
      refine zg_iload dd_94_81 (j := 0) rfl ?_
      refine zg_iconst dd_94_83 kI_m1 ?_
      refine zg_icmp_ne (tgt := 90) dd_94_84 (by decide) (fun q16 => ?_) (fun q16 => ?_)
      · replace h := z_f h q16
        refine zg_aload_n dd_94_90 rfl (j := 1) rfl ?_
        refine zg_getR dd_94_91 zl_T_12 zCs_0 rfl zCr_0_0 ?_
        refine zg_iload dd_94_94 (j := 6) rfl ?_
        refine zg_iload dd_94_96 (j := 0) rfl ?_
        refine zg_iconst dd_94_98 kI_2 ?_
        refine zg_irem dd_94_99 (by decide) ?_
        refine zg_aload_n dd_94_100 rfl (j := 3) rfl ?_
        refine zg_getR dd_94_101 zl_T_264 zCs_23 rfl zCr_23_1 ?_
        refine zg_iload_n dd_94_104 rfl (j := 2) rfl ?_
        refine zg_iald (w := (r11 24 v1.toNatClampNeg)) dd_94_105 zCs_24 g13 rfl ?_
        refine zg_iconst dd_94_106 kI_2 ?_
        refine zg_irem dd_94_107 (by decide) ?_
        obtain ⟨r17, e18, h⟩ := z_bd h
        refine zg_invV_i (av := [.inl v5, .inl (r14 % (2 : Int32)), .inl ((r11 24 v1.toNatClampNeg) % (2 : Int32))]) (st := []) (n := 3) dd_94_108 ca_93 zw_823 zw_824 zw_825 zCs_1 zcl_10 rfl (mt_fc_World_price e18) rfl ⟨by decide +kernel, by decide⟩ (Nat.le_of_ble_eq_true rfl) ?_
        refine zg_aload_n dd_94_111 rfl (j := 1) rfl ?_
        refine zg_getR dd_94_112 zl_T_48 zCs_0 rfl zCr_0_8 ?_
        refine zg_getR dd_94_115 zl_T_193 zCs_104 rfl zCr_104_0 ?_
        refine zg_iload dd_94_118 (j := 0) rfl ?_
        obtain ⟨g19, h⟩ := z_gd h
        refine zg_iald (w := (r17.2 105 r14.toNatClampNeg)) dd_94_120 zCs_105 g19 rfl ?_
        refine zg_isub dd_94_121 ?_
        refine zg_istore dd_94_122 (Nat.le_of_ble_eq_true rfl) (lv' := [(7, .inl (r17.1 - (r17.2 105 r14.toNatClampNeg))), (6, .inl r14), (0, .inr (.inr (some 0))), (1, .inl v1), (2, .inr (.inr (some 23))), (3, .inl v3), (4, .inl v4), (5, .inl v5)]) rfl ?_
        refine zg_iload_n dd_94_124 rfl (j := 5) rfl ?_
        refine zg_if_lt (tgt := 135) dd_94_125 (by decide) (fun q20 => ?_) (fun q20 => ?_)
        · replace h := z_t h q20
          refine zg_iload dd_94_135 (j := 7) rfl ?_
          refine zg_istore_n dd_94_137 rfl (Nat.le_of_ble_eq_true rfl) (lv' := [(3, .inl v5), (7, .inl (r17.1 - (r17.2 105 r14.toNatClampNeg))), (6, .inl r14), (0, .inr (.inr (some 0))), (1, .inl v1), (2, .inr (.inr (some 23))), (4, .inl v4), (5, .inl v5)]) rfl ?_
          refine zg_iload dd_94_138 (j := 1) rfl ?_
          refine zg_istore dd_94_140 (Nat.le_of_ble_eq_true rfl) (lv' := [(4, .inl (r17.1 - (r17.2 105 r14.toNatClampNeg))), (3, .inl v5), (7, .inl (r17.1 - (r17.2 105 r14.toNatClampNeg))), (6, .inl r14), (0, .inr (.inr (some 0))), (1, .inl v1), (2, .inr (.inr (some 23))), (5, .inl v5)]) rfl ?_
          refine zg_iinc dd_94_142 (j := 7) rfl (v := (v5 + (1 : Int32))) (by rw [kI_1]) (Nat.le_of_ble_eq_true rfl) (lv' := [(5, .inl (v5 + (1 : Int32))), (4, .inl (r17.1 - (r17.2 105 r14.toNatClampNeg))), (3, .inl v5), (7, .inl (r17.1 - (r17.2 105 r14.toNatClampNeg))), (6, .inl r14), (0, .inr (.inr (some 0))), (1, .inl v1), (2, .inr (.inr (some 23)))]) rfl ?_
          refine zg_goto (tgt := 41) dd_94_145 (by decide) ?_
          refine zg_sub [5, 6, 7, 2, 1, 0] rfl ?_
          exact ih _ _ _ _ _ h
        · replace h := z_f h q20
          refine zg_iload dd_94_128 (j := 0) rfl ?_
          refine zg_iload dd_94_130 (j := 6) rfl ?_
          refine zg_icmp_le (tgt := 142) dd_94_132 (by decide) (fun q21 => ?_) (fun q21 => ?_)
          · replace h := z_t h q21
            refine zg_iinc dd_94_142 (j := 7) rfl (v := (v5 + (1 : Int32))) (by rw [kI_1]) (Nat.le_of_ble_eq_true rfl) (lv' := [(5, .inl (v5 + (1 : Int32))), (7, .inl (r17.1 - (r17.2 105 r14.toNatClampNeg))), (6, .inl r14), (0, .inr (.inr (some 0))), (1, .inl v1), (2, .inr (.inr (some 23))), (3, .inl v3), (4, .inl v4)]) rfl ?_
            refine zg_goto (tgt := 41) dd_94_145 (by decide) ?_
            refine zg_sub [3, 4, 5, 6, 7, 0] rfl ?_
            exact ih _ _ _ _ _ h
          · replace h := z_f h q21
            refine zg_iload dd_94_135 (j := 7) rfl ?_
            refine zg_istore_n dd_94_137 rfl (Nat.le_of_ble_eq_true rfl) (lv' := [(3, .inl v5), (7, .inl (r17.1 - (r17.2 105 r14.toNatClampNeg))), (6, .inl r14), (0, .inr (.inr (some 0))), (1, .inl v1), (2, .inr (.inr (some 23))), (4, .inl v4), (5, .inl v5)]) rfl ?_
            refine zg_iload dd_94_138 (j := 1) rfl ?_
            refine zg_istore dd_94_140 (Nat.le_of_ble_eq_true rfl) (lv' := [(4, .inl (r17.1 - (r17.2 105 r14.toNatClampNeg))), (3, .inl v5), (7, .inl (r17.1 - (r17.2 105 r14.toNatClampNeg))), (6, .inl r14), (0, .inr (.inr (some 0))), (1, .inl v1), (2, .inr (.inr (some 23))), (5, .inl v5)]) rfl ?_
            refine zg_iinc dd_94_142 (j := 7) rfl (v := (v5 + (1 : Int32))) (by rw [kI_1]) (Nat.le_of_ble_eq_true rfl) (lv' := [(5, .inl (v5 + (1 : Int32))), (4, .inl (r17.1 - (r17.2 105 r14.toNatClampNeg))), (3, .inl v5), (7, .inl (r17.1 - (r17.2 105 r14.toNatClampNeg))), (6, .inl r14), (0, .inr (.inr (some 0))), (1, .inl v1), (2, .inr (.inr (some 23)))]) rfl ?_
            refine zg_goto (tgt := 41) dd_94_145 (by decide) ?_
            refine zg_sub [5, 6, 7, 2, 1, 0] rfl ?_
            exact ih _ _ _ _ _ h
      · replace h := z_t h q16
        refine zg_goto (tgt := 142) dd_94_87 (by decide) ?_
        refine zg_iinc dd_94_142 (j := 6) rfl (v := (v5 + (1 : Int32))) (by rw [kI_1]) (Nat.le_of_ble_eq_true rfl) (lv' := [(5, .inl (v5 + (1 : Int32))), (6, .inl r14), (0, .inr (.inr (some 0))), (1, .inl v1), (2, .inr (.inr (some 23))), (3, .inl v3), (4, .inl v4)]) rfl ?_
        refine zg_goto (tgt := 41) dd_94_145 (by decide) ?_
        refine zg_sub [2, 3, 4, 5, 6, 0] rfl ?_
        exact ih _ _ _ _ _ h
set_option maxRecDepth 20000 in
theorem mt_fc_T_bring {I : zI} {a1 : Int32} {res : (Int32 × zI)} (h : fc_T_bring I a1 = some res) : zM 6 ym_94 [.inr (.inr (some 0)), .inl a1] (zCs, zCr, I) (some (.inl res.1)) (zCs, zCr, res.2) 0 0 := by
  refine zM_of (by decide) (Nat.le_of_ble_eq_true rfl) (lv := [(0, .inr (.inr (some 0))), (1, .inl a1)]) rfl ?_
  rw [fc_T_bring] at h
  refine zg_aload_n dd_94_0 rfl (j := 0) rfl ?_
  refine zg_getR dd_94_1 zl_T_12 zCs_0 rfl zCr_0_0 ?_
  refine zg_getR dd_94_4 zl_T_255 zCs_1 rfl zCr_1_2 ?_
  refine zg_astore_n dd_94_7 rfl (Nat.le_of_ble_eq_true rfl) (lv' := [(2, .inr (.inr (some 23))), (0, .inr (.inr (some 0))), (1, .inl a1)]) rfl ?_
  refine zg_aload_n dd_94_8 rfl (j := 0) rfl ?_
  refine zg_iload_n dd_94_9 rfl (j := 2) rfl ?_
  obtain ⟨r1, e2, h⟩ := z_bd h
  refine zg_invV_i (av := [.inl a1]) (st := []) (n := 1) dd_94_10 ca_82 zw_774 zw_775 zw_776 zCs_23 zcl_1 rfl (mt_fc_Folk_hasPerson e2) rfl ⟨by decide +kernel, by decide⟩ (Nat.le_of_ble_eq_true rfl) ?_
  refine zg_if_ne (tgt := 22) dd_94_13 (by decide) (fun q3 => ?_) (fun q3 => ?_)
  · replace h := z_f h q3
    refine zg_aload_n dd_94_22 rfl (j := 1) rfl ?_
    refine zg_getR dd_94_23 zl_T_48 zCs_0 rfl zCr_0_8 ?_
    refine zg_aload_n dd_94_26 rfl (j := 1) rfl ?_
    refine zg_getR dd_94_27 zl_T_12 zCs_0 rfl zCr_0_0 ?_
    obtain ⟨r4, e5, h⟩ := z_bd h
    refine zg_invV_v (av := [.inr (.inr (some 1))]) (st := []) (n := 1) dd_94_30 ca_51 zw_635 zw_636 zw_637 zCs_104 zcl_9 rfl (mt_fc_Ways_survey e5) rfl ⟨by decide +kernel, by decide⟩ (Nat.le_of_ble_eq_true rfl) ?_
    refine zg_iconst dd_94_33 kI_m1 ?_
    refine zg_istore_n dd_94_34 rfl (Nat.le_of_ble_eq_true rfl) (lv' := [(3, .inl (-1 : Int32)), (2, .inr (.inr (some 23))), (0, .inr (.inr (some 0))), (1, .inl a1)]) rfl ?_
    refine zg_iconst dd_94_35 kI_0 ?_
    refine zg_istore dd_94_36 (Nat.le_of_ble_eq_true rfl) (lv' := [(4, .inl (0 : Int32)), (3, .inl (-1 : Int32)), (2, .inr (.inr (some 23))), (0, .inr (.inr (some 0))), (1, .inl a1)]) rfl ?_
    refine zg_iconst dd_94_38 kI_0 ?_
    refine zg_istore dd_94_39 (Nat.le_of_ble_eq_true rfl) (lv' := [(5, .inl (0 : Int32)), (4, .inl (0 : Int32)), (3, .inl (-1 : Int32)), (2, .inr (.inr (some 23))), (0, .inr (.inr (some 0))), (1, .inl a1)]) rfl ?_
    refine zg_sub [4, 5, 3, 2, 1, 0] rfl ?_
    refine lt_fc_T_bring_L41  _ _ _ _ _ _ h
  · replace h := z_t h q3
    refine zg_aload_n dd_94_16 rfl (j := 1) rfl ?_
    refine zg_iconst dd_94_17 kI_1 ?_
    obtain ⟨r22, e23, h⟩ := z_bd h
    refine zg_invV_i (av := [.inl (1 : Int32)]) (st := []) (n := 1) dd_94_18 ca_2 zw_430 zw_432 zv_0 zCs_0 zcl_11 rfl (mt_fc_T_refuse e23) rfl ⟨by decide +kernel, by decide⟩ (Nat.le_of_ble_eq_true rfl) ?_
    obtain rfl := Option.some.inj h
    exact zg_iret dd_94_21 rfl
/-! TurnedLand.doubt(0, None) -/
def fc_T_doubt (I : zI) (a1 : Int32) : Option (Int32 × zI) :=
  if (zush a1 (I 2 2)) = 0 then
    (fc_JInteger_bitCount I a1).bind fun r6 =>
    if r6 ≤ (6 : Int32) then
      some ((I 29 0), (zup I 29 0 a1))
    else
      (fc_T_refuse I (1 : Int32)).bind fun r9 =>
      some (r9.1, r9.2)
  else
    (fc_T_refuse I (1 : Int32)).bind fun r3 =>
    some (r3.1, r3.2)
set_option maxRecDepth 20000 in
theorem mt_fc_T_doubt {I : zI} {a1 : Int32} {res : (Int32 × zI)} (h : fc_T_doubt I a1 = some res) : zM 3 ym_96 [.inr (.inr (some 0)), .inl a1] (zCs, zCr, I) (some (.inl res.1)) (zCs, zCr, res.2) 0 0 := by
  refine zM_of (by decide) (Nat.le_of_ble_eq_true rfl) (lv := [(0, .inr (.inr (some 0))), (1, .inl a1)]) rfl ?_
  rw [fc_T_doubt] at h
  refine zg_iload_n dd_96_0 rfl (j := 1) rfl ?_
  refine zg_aload_n dd_96_1 rfl (j := 0) rfl ?_
  refine zg_getR dd_96_2 zl_T_12 zCs_0 rfl zCr_0_0 ?_
  refine zg_getR dd_96_5 zl_T_76 zCs_1 rfl zCr_1_0 ?_
  refine zg_getI (x := (I 2 2)) dd_96_8 zl_T_116 zCs_2 rfl rfl ?_
  refine zg_iushr dd_96_11 ?_
  refine zg_if_ne (tgt := 19) dd_96_12 (by decide) (fun q1 => ?_) (fun q1 => ?_)
  · replace h := z_f h q1
    refine zg_iconst dd_96_19 kI_0 ?_
    refine zg_istore_n dd_96_20 rfl (Nat.le_of_ble_eq_true rfl) (lv' := [(2, .inl (0 : Int32)), (0, .inr (.inr (some 0))), (1, .inl a1)]) rfl ?_
    refine zg_iload_n dd_96_21 rfl (j := 0) rfl ?_
    refine zg_if_eq (tgt := 34) dd_96_22 (by decide) (fun _ => ?_) (fun q2 => absurd q2 (by decide))
    refine zg_aload_n dd_96_34 rfl (j := 1) rfl ?_
    refine zg_iconst dd_96_35 kI_1 ?_
    obtain ⟨r3, e4, h⟩ := z_bd h
    refine zg_invV_i (av := [.inl (1 : Int32)]) (st := []) (n := 1) dd_96_36 ca_2 zw_430 zw_432 zv_0 zCs_0 zcl_11 rfl (mt_fc_T_refuse e4) rfl ⟨by decide +kernel, by decide⟩ (Nat.le_of_ble_eq_true rfl) ?_
    obtain rfl := Option.some.inj h
    exact zg_iret dd_96_39 rfl
  · replace h := z_t h q1
    refine zg_iconst dd_96_15 kI_1 ?_
    refine zg_goto (tgt := 20) dd_96_16 (by decide) ?_
    refine zg_istore_n dd_96_20 rfl (Nat.le_of_ble_eq_true rfl) (lv' := [(2, .inl (1 : Int32)), (0, .inr (.inr (some 0))), (1, .inl a1)]) rfl ?_
    refine zg_iload_n dd_96_21 rfl (j := 0) rfl ?_
    refine zg_if_eq (tgt := 34) dd_96_22 (by decide) (fun q5 => absurd q5 (by decide)) (fun _ => ?_)
    refine zg_iload_n dd_96_25 rfl (j := 2) rfl ?_
    obtain ⟨r6, e7, h⟩ := z_bd h
    refine zg_invS_i (av := [.inl a1]) (st := []) (n := 1) dd_96_26 ca_26 zw_839 zw_528 (mt_fc_JInteger_bitCount e7) rfl ⟨by decide +kernel, by decide⟩ (Nat.le_of_ble_eq_true rfl) ?_
    refine zg_bipush dd_96_29 kB_6 ?_
    refine zg_icmp_le (tgt := 40) dd_96_31 (by decide) (fun q8 => ?_) (fun q8 => ?_)
    · replace h := z_t h q8
      refine zg_aload_n dd_96_40 rfl (j := 1) rfl ?_
      refine zg_getR dd_96_41 zl_T_12 zCs_0 rfl zCr_0_0 ?_
      refine zg_getR dd_96_44 zl_T_122 zCs_1 rfl zCr_1_3 ?_
      refine zg_getI (x := (I 29 0)) dd_96_47 zl_T_126 zCs_29 rfl rfl ?_
      refine zg_istore_n dd_96_50 rfl (Nat.le_of_ble_eq_true rfl) (lv' := [(3, .inl (I 29 0)), (2, .inl (1 : Int32)), (0, .inr (.inr (some 0))), (1, .inl a1)]) rfl ?_
      refine zg_aload_n dd_96_51 rfl (j := 2) rfl ?_
      refine zg_getR dd_96_52 zl_T_12 zCs_0 rfl zCr_0_0 ?_
      refine zg_getR dd_96_55 zl_T_122 zCs_1 rfl zCr_1_3 ?_
      refine zg_iload_n dd_96_58 rfl (j := 3) rfl ?_
      refine zg_putI dd_96_59 zp_T_126 zCs_29 rfl (zSt_int _) ?_
      refine zg_iload_n dd_96_62 rfl (j := 0) rfl ?_
      obtain rfl := Option.some.inj h
      exact zg_iret dd_96_63 rfl
    · replace h := z_f h q8
      refine zg_aload_n dd_96_34 rfl (j := 1) rfl ?_
      refine zg_iconst dd_96_35 kI_1 ?_
      obtain ⟨r9, e10, h⟩ := z_bd h
      refine zg_invV_i (av := [.inl (1 : Int32)]) (st := []) (n := 1) dd_96_36 ca_2 zw_430 zw_432 zv_0 zCs_0 zcl_11 rfl (mt_fc_T_refuse e10) rfl ⟨by decide +kernel, by decide⟩ (Nat.le_of_ble_eq_true rfl) ?_
      obtain rfl := Option.some.inj h
      exact zg_iret dd_96_39 rfl
/-! TurnedLand.fact(0, None, None) -/
def fc_T_fact (I : zI) (a1 : Int32) (a2 : Int32) : Option (Int32 × zI) :=
  (fc_Walks_has I a1).bind fun r1 =>
  if r1 = 0 then
    (fc_T_refuse I (1 : Int32)).bind fun r4 =>
    some (r4.1, r4.2)
  else
    (fc_T_within I a2 (0 : Int32) (1 : Int32)).bind fun r6 =>
    if r6 = 0 then
      (fc_T_refuse I (1 : Int32)).bind fun r13 =>
      some (r13.1, r13.2)
    else
      if (I 29 1) < (12 : Int32) then
        z_guard (zb (I 29 1) 12) <|
        some ((I 29 1), (zup (zup (zup I 30 (I 29 1).toNatClampNeg a1) 31 (I 29 1).toNatClampNeg a2) 29 1 ((I 29 1) + (1 : Int32))))
      else
        (fc_T_refuse I (4 : Int32)).bind fun r11 =>
        some (r11.1, r11.2)
set_option maxRecDepth 20000 in
theorem mt_fc_T_fact {I : zI} {a1 : Int32} {a2 : Int32} {res : (Int32 × zI)} (h : fc_T_fact I a1 a2 = some res) : zM 3 ym_97 [.inr (.inr (some 0)), .inl a1, .inl a2] (zCs, zCr, I) (some (.inl res.1)) (zCs, zCr, res.2) 0 0 := by
  refine zM_of (by decide) (Nat.le_of_ble_eq_true rfl) (lv := [(0, .inr (.inr (some 0))), (1, .inl a1), (2, .inl a2)]) rfl ?_
  rw [fc_T_fact] at h
  refine zg_aload_n dd_97_0 rfl (j := 0) rfl ?_
  refine zg_getR dd_97_1 zl_T_12 zCs_0 rfl zCr_0_0 ?_
  refine zg_getR dd_97_4 zl_T_122 zCs_1 rfl zCr_1_3 ?_
  refine zg_astore_n dd_97_7 rfl (Nat.le_of_ble_eq_true rfl) (lv' := [(3, .inr (.inr (some 29))), (0, .inr (.inr (some 0))), (1, .inl a1), (2, .inl a2)]) rfl ?_
  refine zg_aload_n dd_97_8 rfl (j := 1) rfl ?_
  refine zg_getR dd_97_9 zl_T_12 zCs_0 rfl zCr_0_0 ?_
  refine zg_getR dd_97_12 zl_T_199 zCs_1 rfl zCr_1_1 ?_
  refine zg_iload_n dd_97_15 rfl (j := 2) rfl ?_
  obtain ⟨r1, e2, h⟩ := z_bd h
  refine zg_invV_i (av := [.inl a1]) (st := []) (n := 1) dd_97_16 ca_68 zw_711 zw_712 zw_713 zCs_7 zcl_8 rfl (mt_fc_Walks_has e2) rfl ⟨by decide +kernel, by decide⟩ (Nat.le_of_ble_eq_true rfl) ?_
  refine zg_if_eq (tgt := 31) dd_97_19 (by decide) (fun q3 => ?_) (fun q3 => ?_)
  · replace h := z_t h q3
    refine zg_aload_n dd_97_31 rfl (j := 1) rfl ?_
    refine zg_iconst dd_97_32 kI_1 ?_
    obtain ⟨r4, e5, h⟩ := z_bd h
    refine zg_invV_i (av := [.inl (1 : Int32)]) (st := []) (n := 1) dd_97_33 ca_2 zw_430 zw_432 zv_0 zCs_0 zcl_11 rfl (mt_fc_T_refuse e5) rfl ⟨by decide +kernel, by decide⟩ (Nat.le_of_ble_eq_true rfl) ?_
    obtain rfl := Option.some.inj h
    exact zg_iret dd_97_36 rfl
  · replace h := z_f h q3
    refine zg_iload_n dd_97_22 rfl (j := 3) rfl ?_
    refine zg_iconst dd_97_23 kI_0 ?_
    refine zg_iconst dd_97_24 kI_1 ?_
    obtain ⟨r6, e7, h⟩ := z_bd h
    refine zg_invS_i (av := [.inl a2, .inl (0 : Int32), .inl (1 : Int32)]) (st := []) (n := 3) dd_97_25 ca_1 zw_427 zw_428 (mt_fc_T_within e7) rfl ⟨by decide +kernel, by decide⟩ (Nat.le_of_ble_eq_true rfl) ?_
    refine zg_if_ne (tgt := 37) dd_97_28 (by decide) (fun q8 => ?_) (fun q8 => ?_)
    · replace h := z_f h q8
      refine zg_aload_n dd_97_37 rfl (j := 0) rfl ?_
      refine zg_getI (x := (I 29 1)) dd_97_38 zl_T_311 zCs_29 rfl rfl ?_
      refine zg_bipush dd_97_41 kB_12 ?_
      refine zg_icmp_lt (tgt := 52) dd_97_43 (by decide) (fun q9 => ?_) (fun q9 => ?_)
      · replace h := z_t h q9
        refine zg_aload_n dd_97_52 rfl (j := 0) rfl ?_
        refine zg_getR dd_97_53 zl_T_314 zCs_29 rfl zCr_29_2 ?_
        refine zg_aload_n dd_97_56 rfl (j := 0) rfl ?_
        refine zg_getI (x := (I 29 1)) dd_97_57 zl_T_311 zCs_29 rfl rfl ?_
        refine zg_iload_n dd_97_60 rfl (j := 2) rfl ?_
        obtain ⟨g10, h⟩ := z_gd h
        refine zg_iast dd_97_61 zCs_30 g10 ?_
        refine zg_aload_n dd_97_62 rfl (j := 0) rfl ?_
        refine zg_getR dd_97_63 zl_T_317 zCs_29 rfl zCr_29_3 ?_
        refine zg_aload_n dd_97_66 rfl (j := 0) rfl ?_
        refine zg_getI (x := (I 29 1)) dd_97_67 zl_T_311 zCs_29 rfl rfl ?_
        refine zg_iload_n dd_97_70 rfl (j := 3) rfl ?_
        refine zg_iast dd_97_71 zCs_31 g10 ?_
        refine zg_aload_n dd_97_72 rfl (j := 0) rfl ?_
        refine zg_dup dd_97_73 rfl ?_
        refine zg_getI (x := (I 29 1)) dd_97_74 zl_T_311 zCs_29 rfl rfl ?_
        refine zg_dup_x1 dd_97_77 rfl rfl ?_
        refine zg_iconst dd_97_78 kI_1 ?_
        refine zg_iadd dd_97_79 ?_
        refine zg_putI dd_97_80 zp_T_311 zCs_29 rfl (zSt_int _) ?_
        obtain rfl := Option.some.inj h
        exact zg_iret dd_97_83 rfl
      · replace h := z_f h q9
        refine zg_aload_n dd_97_46 rfl (j := 1) rfl ?_
        refine zg_iconst dd_97_47 kI_4 ?_
        obtain ⟨r11, e12, h⟩ := z_bd h
        refine zg_invV_i (av := [.inl (4 : Int32)]) (st := []) (n := 1) dd_97_48 ca_2 zw_430 zw_432 zv_0 zCs_0 zcl_11 rfl (mt_fc_T_refuse e12) rfl ⟨by decide +kernel, by decide⟩ (Nat.le_of_ble_eq_true rfl) ?_
        obtain rfl := Option.some.inj h
        exact zg_iret dd_97_51 rfl
    · replace h := z_t h q8
      refine zg_aload_n dd_97_31 rfl (j := 1) rfl ?_
      refine zg_iconst dd_97_32 kI_1 ?_
      obtain ⟨r13, e14, h⟩ := z_bd h
      refine zg_invV_i (av := [.inl (1 : Int32)]) (st := []) (n := 1) dd_97_33 ca_2 zw_430 zw_432 zv_0 zCs_0 zcl_11 rfl (mt_fc_T_refuse e14) rfl ⟨by decide +kernel, by decide⟩ (Nat.le_of_ble_eq_true rfl) ?_
      obtain rfl := Option.some.inj h
      exact zg_iret dd_97_36 rfl
