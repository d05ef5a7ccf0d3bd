/-! TurnedLand$Text.bit[None] -/
def fc_Text_bit (I : zI) (a0 : Int32) : Option Int32 :=
  if a0 = 0 then
    some (0 : Int32)
  else
    some (1 : Int32)
set_option maxRecDepth 20000 in
theorem mt_fc_Text_bit {I : zI} {a0 : Int32} {res : Int32} (h : fc_Text_bit I a0 = some res) : zM 1 ym_56 [.inl a0] (zCs, zCr, I) (some (.inl res)) (zCs, zCr, I) 0 0 := by
  refine zM_of (by decide) (Nat.le_of_ble_eq_true rfl) (lv := [(0, .inl a0)]) rfl ?_
  rw [fc_Text_bit] at h
  refine zg_iload_n dd_56_0 rfl (j := 0) rfl ?_
  refine zg_if_eq (tgt := 8) dd_56_1 (by decide) (fun q1 => ?_) (fun q1 => ?_)
  · replace h := z_t h q1
    refine zg_iconst dd_56_8 kI_0 ?_
    obtain rfl := Option.some.inj h
    exact zg_iret dd_56_9 rfl
  · replace h := z_f h q1
    refine zg_iconst dd_56_4 kI_1 ?_
    refine zg_goto (tgt := 9) dd_56_5 (by decide) ?_
    obtain rfl := Option.some.inj h
    exact zg_iret dd_56_9 rfl
/-! TurnedLand$Text.combine[None, None, None] -/
def fc_Text_combine (I : zI) (a0 : Int32) (a1 : Int32) (a2 : Int32) : Option Int32 :=
  if a0 = (37 : Int32) then
    if a2 = 0 then
      some (0 : Int32)
    else
      if a2 = 0 then none else
      some (a1 % a2)
  else if a0 = (38 : Int32) then
    if a1 = 0 then
      (fc_Text_bit I (0 : Int32)).bind fun r6 =>
      some r6
    else
      if a2 = 0 then
        (fc_Text_bit I (0 : Int32)).bind fun r9 =>
        some r9
      else
        (fc_Text_bit I (1 : Int32)).bind fun r11 =>
        some r11
  else if a0 = (42 : Int32) then
    some (a1 * a2)
  else if a0 = (43 : Int32) then
    some (a1 + a2)
  else if a0 = (45 : Int32) then
    some (a1 - a2)
  else if a0 = (47 : Int32) then
    if a2 = 0 then
      some (0 : Int32)
    else
      if a2 = 0 then none else
      some (a1 / a2)
  else if a0 = (60 : Int32) then
    if a2 ≤ a1 then
      (fc_Text_bit I (0 : Int32)).bind fun r21 =>
      some r21
    else
      (fc_Text_bit I (1 : Int32)).bind fun r23 =>
      some r23
  else if a0 = (61 : Int32) then
    if a1 = a2 then
      (fc_Text_bit I (1 : Int32)).bind fun r29 =>
      some r29
    else
      (fc_Text_bit I (0 : Int32)).bind fun r27 =>
      some r27
  else if a0 = (62 : Int32) then
    if a1 ≤ a2 then
      (fc_Text_bit I (0 : Int32)).bind fun r33 =>
      some r33
    else
      (fc_Text_bit I (1 : Int32)).bind fun r35 =>
      some r35
  else if a0 = (124 : Int32) then
    if a1 = 0 then
      if a2 = 0 then
        (fc_Text_bit I (0 : Int32)).bind fun r42 =>
        some r42
      else
        (fc_Text_bit I (1 : Int32)).bind fun r44 =>
        some r44
    else
      (fc_Text_bit I (1 : Int32)).bind fun r39 =>
      some r39
  else
    some (0 : Int32)
set_option maxRecDepth 20000 in
theorem mt_fc_Text_combine {I : zI} {a0 : Int32} {a1 : Int32} {a2 : Int32} {res : Int32} (h : fc_Text_combine I a0 a1 a2 = some res) : zM 2 ym_55 [.inl a0, .inl a1, .inl a2] (zCs, zCr, I) (some (.inl res)) (zCs, zCr, I) 0 0 := by
  refine zM_of (by decide) (Nat.le_of_ble_eq_true rfl) (lv := [(0, .inl a0), (1, .inl a1), (2, .inl a2)]) rfl ?_
  rw [fc_Text_combine] at h
  refine zg_iload_n dd_55_0 rfl (j := 0) rfl ?_
  rcases z_if h with ⟨q1, h⟩ | ⟨q1, h⟩
  · refine zg_lookIn (tgt := 116) 115 dd_55_1 (by decide) q1 (by decide) (by decide) ?_
    refine zg_iload_n dd_55_116 rfl (j := 2) rfl ?_
    refine zg_if_ne (tgt := 124) dd_55_117 (by decide) (fun q2 => ?_) (fun q2 => ?_)
    · replace h := z_f h q2
      refine zg_iload_n dd_55_124 rfl (j := 1) rfl ?_
      refine zg_iload_n dd_55_125 rfl (j := 2) rfl ?_
      rcases z_if h with ⟨_, h⟩ | ⟨g3, h⟩
      · cases h
      refine zg_irem dd_55_126 g3 ?_
      obtain rfl := Option.some.inj h
      exact zg_iret dd_55_127 rfl
    · replace h := z_t h q2
      refine zg_iconst dd_55_120 kI_0 ?_
      refine zg_goto (tgt := 127) dd_55_121 (by decide) ?_
      obtain rfl := Option.some.inj h
      exact zg_iret dd_55_127 rfl
  rcases z_if h with ⟨q4, h⟩ | ⟨q4, h⟩
  · refine zg_lookIn (tgt := 170) 169 dd_55_1 (by decide) q4 (by decide) (by decide) ?_
    refine zg_iload_n dd_55_170 rfl (j := 1) rfl ?_
    refine zg_if_eq (tgt := 182) dd_55_171 (by decide) (fun q5 => ?_) (fun q5 => ?_)
    · replace h := z_t h q5
      refine zg_iconst dd_55_182 kI_0 ?_
      obtain ⟨r6, e7, h⟩ := z_bd h
      refine zg_invS_i (av := [.inl (0 : Int32)]) (st := []) (n := 1) dd_55_183 ca_56 zw_658 zw_659 (mt_fc_Text_bit e7) rfl ⟨by decide +kernel, by decide⟩ (Nat.le_of_ble_eq_true rfl) ?_
      obtain rfl := Option.some.inj h
      exact zg_iret dd_55_186 rfl
    · replace h := z_f h q5
      refine zg_iload_n dd_55_174 rfl (j := 2) rfl ?_
      refine zg_if_eq (tgt := 182) dd_55_175 (by decide) (fun q8 => ?_) (fun q8 => ?_)
      · replace h := z_t h q8
        refine zg_iconst dd_55_182 kI_0 ?_
        obtain ⟨r9, e10, h⟩ := z_bd h
        refine zg_invS_i (av := [.inl (0 : Int32)]) (st := []) (n := 1) dd_55_183 ca_56 zw_658 zw_659 (mt_fc_Text_bit e10) rfl ⟨by decide +kernel, by decide⟩ (Nat.le_of_ble_eq_true rfl) ?_
        obtain rfl := Option.some.inj h
        exact zg_iret dd_55_186 rfl
      · replace h := z_f h q8
        refine zg_iconst dd_55_178 kI_1 ?_
        refine zg_goto (tgt := 183) dd_55_179 (by decide) ?_
        obtain ⟨r11, e12, h⟩ := z_bd h
        refine zg_invS_i (av := [.inl (1 : Int32)]) (st := []) (n := 1) dd_55_183 ca_56 zw_658 zw_659 (mt_fc_Text_bit e12) rfl ⟨by decide +kernel, by decide⟩ (Nat.le_of_ble_eq_true rfl) ?_
        obtain rfl := Option.some.inj h
        exact zg_iret dd_55_186 rfl
  rcases z_if h with ⟨q13, h⟩ | ⟨q13, h⟩
  · refine zg_lookIn (tgt := 100) 99 dd_55_1 (by decide) q13 (by decide) (by decide) ?_
    refine zg_iload_n dd_55_100 rfl (j := 1) rfl ?_
    refine zg_iload_n dd_55_101 rfl (j := 2) rfl ?_
    refine zg_imul dd_55_102 ?_
    obtain rfl := Option.some.inj h
    exact zg_iret dd_55_103 rfl
  rcases z_if h with ⟨q14, h⟩ | ⟨q14, h⟩
  · refine zg_lookIn (tgt := 92) 91 dd_55_1 (by decide) q14 (by decide) (by decide) ?_
    refine zg_iload_n dd_55_92 rfl (j := 1) rfl ?_
    refine zg_iload_n dd_55_93 rfl (j := 2) rfl ?_
    refine zg_iadd dd_55_94 ?_
    obtain rfl := Option.some.inj h
    exact zg_iret dd_55_95 rfl
  rcases z_if h with ⟨q15, h⟩ | ⟨q15, h⟩
  · refine zg_lookIn (tgt := 96) 95 dd_55_1 (by decide) q15 (by decide) (by decide) ?_
    refine zg_iload_n dd_55_96 rfl (j := 1) rfl ?_
    refine zg_iload_n dd_55_97 rfl (j := 2) rfl ?_
    refine zg_isub dd_55_98 ?_
    obtain rfl := Option.some.inj h
    exact zg_iret dd_55_99 rfl
  rcases z_if h with ⟨q16, h⟩ | ⟨q16, h⟩
  · refine zg_lookIn (tgt := 104) 103 dd_55_1 (by decide) q16 (by decide) (by decide) ?_
    refine zg_iload_n dd_55_104 rfl (j := 2) rfl ?_
    refine zg_if_ne (tgt := 112) dd_55_105 (by decide) (fun q17 => ?_) (fun q17 => ?_)
    · replace h := z_f h q17
      refine zg_iload_n dd_55_112 rfl (j := 1) rfl ?_
      refine zg_iload_n dd_55_113 rfl (j := 2) rfl ?_
      rcases z_if h with ⟨_, h⟩ | ⟨g18, h⟩
      · cases h
      refine zg_idiv dd_55_114 g18 ?_
      obtain rfl := Option.some.inj h
      exact zg_iret dd_55_115 rfl
    · replace h := z_t h q17
      refine zg_iconst dd_55_108 kI_0 ?_
      refine zg_goto (tgt := 115) dd_55_109 (by decide) ?_
      obtain rfl := Option.some.inj h
      exact zg_iret dd_55_115 rfl
  rcases z_if h with ⟨q19, h⟩ | ⟨q19, h⟩
  · refine zg_lookIn (tgt := 128) 127 dd_55_1 (by decide) q19 (by decide) (by decide) ?_
    refine zg_iload_n dd_55_128 rfl (j := 1) rfl ?_
    refine zg_iload_n dd_55_129 rfl (j := 2) rfl ?_
    refine zg_icmp_ge (tgt := 137) dd_55_130 (by decide) (fun q20 => ?_) (fun q20 => ?_)
    · replace h := z_t h q20
      refine zg_iconst dd_55_137 kI_0 ?_
      obtain ⟨r21, e22, h⟩ := z_bd h
      refine zg_invS_i (av := [.inl (0 : Int32)]) (st := []) (n := 1) dd_55_138 ca_56 zw_658 zw_659 (mt_fc_Text_bit e22) rfl ⟨by decide +kernel, by decide⟩ (Nat.le_of_ble_eq_true rfl) ?_
      obtain rfl := Option.some.inj h
      exact zg_iret dd_55_141 rfl
    · replace h := z_f h q20
      refine zg_iconst dd_55_133 kI_1 ?_
      refine zg_goto (tgt := 138) dd_55_134 (by decide) ?_
      obtain ⟨r23, e24, h⟩ := z_bd h
      refine zg_invS_i (av := [.inl (1 : Int32)]) (st := []) (n := 1) dd_55_138 ca_56 zw_658 zw_659 (mt_fc_Text_bit e24) rfl ⟨by decide +kernel, by decide⟩ (Nat.le_of_ble_eq_true rfl) ?_
      obtain rfl := Option.some.inj h
      exact zg_iret dd_55_141 rfl
  rcases z_if h with ⟨q25, h⟩ | ⟨q25, h⟩
  · refine zg_lookIn (tgt := 142) 141 dd_55_1 (by decide) q25 (by decide) (by decide) ?_
    refine zg_iload_n dd_55_142 rfl (j := 1) rfl ?_
    refine zg_iload_n dd_55_143 rfl (j := 2) rfl ?_
    refine zg_icmp_ne (tgt := 151) dd_55_144 (by decide) (fun q26 => ?_) (fun q26 => ?_)
    · replace h := z_f h q26
      refine zg_iconst dd_55_151 kI_0 ?_
      obtain ⟨r27, e28, h⟩ := z_bd h
      refine zg_invS_i (av := [.inl (0 : Int32)]) (st := []) (n := 1) dd_55_152 ca_56 zw_658 zw_659 (mt_fc_Text_bit e28) rfl ⟨by decide +kernel, by decide⟩ (Nat.le_of_ble_eq_true rfl) ?_
      obtain rfl := Option.some.inj h
      exact zg_iret dd_55_155 rfl
    · replace h := z_t h q26
      refine zg_iconst dd_55_147 kI_1 ?_
      refine zg_goto (tgt := 152) dd_55_148 (by decide) ?_
      obtain ⟨r29, e30, h⟩ := z_bd h
      refine zg_invS_i (av := [.inl (1 : Int32)]) (st := []) (n := 1) dd_55_152 ca_56 zw_658 zw_659 (mt_fc_Text_bit e30) rfl ⟨by decide +kernel, by decide⟩ (Nat.le_of_ble_eq_true rfl) ?_
      obtain rfl := Option.some.inj h
      exact zg_iret dd_55_155 rfl
  rcases z_if h with ⟨q31, h⟩ | ⟨q31, h⟩
  · refine zg_lookIn (tgt := 156) 155 dd_55_1 (by decide) q31 (by decide) (by decide) ?_
    refine zg_iload_n dd_55_156 rfl (j := 1) rfl ?_
    refine zg_iload_n dd_55_157 rfl (j := 2) rfl ?_
    refine zg_icmp_le (tgt := 165) dd_55_158 (by decide) (fun q32 => ?_) (fun q32 => ?_)
    · replace h := z_t h q32
      refine zg_iconst dd_55_165 kI_0 ?_
      obtain ⟨r33, e34, h⟩ := z_bd h
      refine zg_invS_i (av := [.inl (0 : Int32)]) (st := []) (n := 1) dd_55_166 ca_56 zw_658 zw_659 (mt_fc_Text_bit e34) rfl ⟨by decide +kernel, by decide⟩ (Nat.le_of_ble_eq_true rfl) ?_
      obtain rfl := Option.some.inj h
      exact zg_iret dd_55_169 rfl
    · replace h := z_f h q32
      refine zg_iconst dd_55_161 kI_1 ?_
      refine zg_goto (tgt := 166) dd_55_162 (by decide) ?_
      obtain ⟨r35, e36, h⟩ := z_bd h
      refine zg_invS_i (av := [.inl (1 : Int32)]) (st := []) (n := 1) dd_55_166 ca_56 zw_658 zw_659 (mt_fc_Text_bit e36) rfl ⟨by decide +kernel, by decide⟩ (Nat.le_of_ble_eq_true rfl) ?_
      obtain rfl := Option.some.inj h
      exact zg_iret dd_55_169 rfl
  rcases z_if h with ⟨q37, h⟩ | ⟨q37, h⟩
  · refine zg_lookIn (tgt := 187) 186 dd_55_1 (by decide) q37 (by decide) (by decide) ?_
    refine zg_iload_n dd_55_187 rfl (j := 1) rfl ?_
    refine zg_if_ne (tgt := 195) dd_55_188 (by decide) (fun q38 => ?_) (fun q38 => ?_)
    · replace h := z_f h q38
      refine zg_iconst dd_55_195 kI_1 ?_
      refine zg_goto (tgt := 200) dd_55_196 (by decide) ?_
      obtain ⟨r39, e40, h⟩ := z_bd h
      refine zg_invS_i (av := [.inl (1 : Int32)]) (st := []) (n := 1) dd_55_200 ca_56 zw_658 zw_659 (mt_fc_Text_bit e40) rfl ⟨by decide +kernel, by decide⟩ (Nat.le_of_ble_eq_true rfl) ?_
      obtain rfl := Option.some.inj h
      exact zg_iret dd_55_203 rfl
    · replace h := z_t h q38
      refine zg_iload_n dd_55_191 rfl (j := 2) rfl ?_
      refine zg_if_eq (tgt := 199) dd_55_192 (by decide) (fun q41 => ?_) (fun q41 => ?_)
      · replace h := z_t h q41
        refine zg_iconst dd_55_199 kI_0 ?_
        obtain ⟨r42, e43, h⟩ := z_bd h
        refine zg_invS_i (av := [.inl (0 : Int32)]) (st := []) (n := 1) dd_55_200 ca_56 zw_658 zw_659 (mt_fc_Text_bit e43) rfl ⟨by decide +kernel, by decide⟩ (Nat.le_of_ble_eq_true rfl) ?_
        obtain rfl := Option.some.inj h
        exact zg_iret dd_55_203 rfl
      · replace h := z_f h q41
        refine zg_iconst dd_55_195 kI_1 ?_
        refine zg_goto (tgt := 200) dd_55_196 (by decide) ?_
        obtain ⟨r44, e45, h⟩ := z_bd h
        refine zg_invS_i (av := [.inl (1 : Int32)]) (st := []) (n := 1) dd_55_200 ca_56 zw_658 zw_659 (mt_fc_Text_bit e45) rfl ⟨by decide +kernel, by decide⟩ (Nat.le_of_ble_eq_true rfl) ?_
        obtain rfl := Option.some.inj h
        exact zg_iret dd_55_203 rfl
  refine zg_lookOut (tgt := 204) [(37 : Int32), (38 : Int32), (42 : Int32), (43 : Int32), (45 : Int32), (47 : Int32), (60 : Int32), (61 : Int32), (62 : Int32), (124 : Int32)] dd_55_1 (by decide) (by decide +kernel) (by simp only [List.mem_cons, List.not_mem_nil, or_false]; rintro _ (rfl | rfl | rfl | rfl | rfl | rfl | rfl | rfl | rfl | rfl) <;> assumption) (by decide) ?_
  refine zg_iconst dd_55_204 kI_0 ?_
  obtain rfl := Option.some.inj h
  exact zg_iret dd_55_205 rfl
/-! TurnedLand$Text.workOut[35, None, None, None, None] -/
def fc_Text_workOut_L35 : Nat → Int32 → Int32 → zI → Option (Int32 × zI)
  | 0, _, _, _ => none
  | nf + 1, v5, v6, I =>
    if (I 35 1) ≤ v6 then
      if v5 < (1 : Int32) then
        some ((0 : Int32), I)
      else
        z_guard (zb (v5 - (1 : Int32)) 60) <|
        some ((I 38 (v5 - (1 : Int32)).toNatClampNeg), I)
    else
      z_guard (zb v6 60) <|
      if (I 36 v6.toNatClampNeg) = 0 then
        if (60 : Int32) ≤ v5 then
          fc_Text_workOut_L35 nf v5 (v6 + (1 : Int32)) I
        else
          (fc_Text_valueAt I v6).bind fun r7 =>
          z_guard (zb v5 60) <|
          fc_Text_workOut_L35 nf (v5 + (1 : Int32)) (v6 + (1 : Int32)) (zup I 38 v5.toNatClampNeg r7)
      else
        if (I 36 v6.toNatClampNeg) = (1 : Int32) then
          if (60 : Int32) ≤ v5 then
            fc_Text_workOut_L35 nf v5 (v6 + (1 : Int32)) I
          else
            (fc_Text_valueAt I v6).bind fun r28 =>
            z_guard (zb v5 60) <|
            fc_Text_workOut_L35 nf (v5 + (1 : Int32)) (v6 + (1 : Int32)) (zup I 38 v5.toNatClampNeg r28)
        else
          if (I 36 v6.toNatClampNeg) = (33 : Int32) then
            if v5 < (1 : Int32) then
              fc_Text_workOut_L35 nf v5 (v6 + (1 : Int32)) I
            else
              z_guard (zb (v5 - (1 : Int32)) 60) <|
              if (I 38 (v5 - (1 : Int32)).toNatClampNeg) = 0 then
                (fc_Text_bit I (1 : Int32)).bind fun r24 =>
                z_guard (zb (v5 - (1 : Int32)) 60) <|
                fc_Text_workOut_L35 nf v5 (v6 + (1 : Int32)) (zup I 38 (v5 - (1 : Int32)).toNatClampNeg r24)
              else
                (fc_Text_bit I (0 : Int32)).bind fun r21 =>
                z_guard (zb (v5 - (1 : Int32)) 60) <|
                fc_Text_workOut_L35 nf v5 (v6 + (1 : Int32)) (zup I 38 (v5 - (1 : Int32)).toNatClampNeg r21)
          else
            if v5 < (2 : Int32) then
              fc_Text_workOut_L35 nf v5 (v6 + (1 : Int32)) I
            else
              z_guard (zb ((v5 + (-1 : Int32)) - (1 : Int32)) 60) <|
              z_guard (zb (v5 + (-1 : Int32)) 60) <|
              (fc_Text_combine I (I 36 v6.toNatClampNeg) (I 38 ((v5 + (-1 : Int32)) - (1 : Int32)).toNatClampNeg) (I 38 (v5 + (-1 : Int32)).toNatClampNeg)).bind fun r15 =>
              z_guard (zb ((v5 + (-1 : Int32)) - (1 : Int32)) 60) <|
              fc_Text_workOut_L35 nf (v5 + (-1 : Int32)) (v6 + (1 : Int32)) (zup I 38 ((v5 + (-1 : Int32)) - (1 : Int32)).toNatClampNeg r15)
def fc_Text_workOut (I : zI) (a1 : Int32) (a2 : Int32) (a3 : Int32) (a4 : Int32) : Option (Int32 × zI) :=
  fc_Text_workOut_L35
    100 (0 : Int32) (0 : Int32) (zup (zup (zup (zup I 39 (0 : Int32).toNatClampNeg a1) 39 (1 : Int32).toNatClampNeg a2) 39 (2 : Int32).toNatClampNeg a3) 39 (3 : Int32).toNatClampNeg a4)
set_option maxRecDepth 20000 in
theorem lt_fc_Text_workOut_L35 {res : (Int32 × zI)} : ∀ (nf : Nat) (v5 : Int32) (v6 : Int32) (I : zI), fc_Text_workOut_L35 nf v5 v6 I = some res → zG 3 ym_53 0 0 (some (.inl res.1)) (zCs, zCr, res.2) zCs.length 35 [(0, .inr (.inr (some 35))), (5, .inl v5), (6, .inl v6)] [] (zCs, zCr, I) 0 0 := by
  intro nf
  induction nf with
  | zero =>
    intro v5 v6 I h
    have h2 : none = some res := h
    cases h2
  | succ nf ih =>
    intro v5 v6 I h
    rw [fc_Text_workOut_L35] at h
    refine zg_iload dd_53_35 (j := 2) rfl ?_
    refine zg_aload_n dd_53_37 rfl (j := 0) rfl ?_
    refine zg_getI dd_53_38 zl_Text_15 zCs_35 rfl ?_
    refine zg_icmp_ge (tgt := 180) dd_53_41 (by decide) (fun q1 => ?_) (fun q1 => ?_)
    · replace h := z_t h q1
      refine zg_iload dd_53_180 (j := 1) rfl ?_
      refine zg_iconst dd_53_182 kI_1 ?_
      refine zg_icmp_lt (tgt := 198) dd_53_183 (by decide) (fun q2 => ?_) (fun q2 => ?_)
      · replace h := z_t h q2
        refine zg_iconst dd_53_198 kI_0 ?_
        obtain rfl := Option.some.inj h
        exact zg_iret dd_53_199 rfl
      · replace h := z_f h q2
        refine zg_aload_n dd_53_186 rfl (j := 0) rfl ?_
        refine zg_getR dd_53_187 zl_Text_26 zCs_35 rfl zCr_35_4 ?_
        refine zg_iload dd_53_190 (j := 1) rfl ?_
        refine zg_iconst dd_53_192 kI_1 ?_
        refine zg_isub dd_53_193 ?_
        obtain ⟨g3, h⟩ := z_gd h
        refine zg_iald dd_53_194 zCs_38 g3 ?_
        refine zg_goto (tgt := 199) dd_53_195 (by decide) ?_
        obtain rfl := Option.some.inj h
        exact zg_iret dd_53_199 rfl
    · replace h := z_f h q1
      refine zg_aload_n dd_53_44 rfl (j := 0) rfl ?_
      refine zg_getR dd_53_45 zl_Text_19 zCs_35 rfl zCr_35_2 ?_
      refine zg_iload dd_53_48 (j := 2) rfl ?_
      obtain ⟨g4, h⟩ := z_gd h
      refine zg_iald dd_53_50 zCs_36 g4 ?_
      refine zg_istore dd_53_51 (Nat.le_of_ble_eq_true rfl) (lv' := [(7, .inl (I 36 v6.toNatClampNeg)), (0, .inr (.inr (some 35))), (5, .inl v5), (6, .inl v6)]) rfl ?_
      refine zg_iload dd_53_53 (j := 0) rfl ?_
      refine zg_if_eq (tgt := 64) dd_53_55 (by decide) (fun q5 => ?_) (fun q5 => ?_)
      · replace h := z_t h q5
        refine zg_iload dd_53_64 (j := 2) rfl ?_
        refine zg_bipush dd_53_66 kB_60 ?_
        refine zg_icmp_ge (tgt := 174) dd_53_68 (by decide) (fun q6 => ?_) (fun q6 => ?_)
        · replace h := z_t h q6
          refine zg_iinc dd_53_174 (j := 3) rfl (v := (v6 + (1 : Int32))) (by rw [kI_1]) (Nat.le_of_ble_eq_true rfl) (lv' := [(6, .inl (v6 + (1 : Int32))), (7, .inl (I 36 v6.toNatClampNeg)), (0, .inr (.inr (some 35))), (5, .inl v5)]) rfl ?_
          refine zg_goto (tgt := 35) dd_53_177 (by decide) ?_
          refine zg_sub [2, 3, 0] rfl ?_
          exact ih _ _ _ h
        · replace h := z_f h q6
          refine zg_aload_n dd_53_71 rfl (j := 1) rfl ?_
          refine zg_getR dd_53_72 zl_Text_26 zCs_35 rfl zCr_35_4 ?_
          refine zg_iload dd_53_75 (j := 2) rfl ?_
          refine zg_iinc dd_53_77 (j := 2) rfl (v := (v5 + (1 : Int32))) (by rw [kI_1]) (Nat.le_of_ble_eq_true rfl) (lv' := [(5, .inl (v5 + (1 : Int32))), (7, .inl (I 36 v6.toNatClampNeg)), (0, .inr (.inr (some 35))), (6, .inl v6)]) rfl ?_
          refine zg_aload_n dd_53_80 rfl (j := 2) rfl ?_
          refine zg_iload dd_53_81 (j := 3) rfl ?_
          obtain ⟨r7, e8, h⟩ := z_bd h
          refine zg_invV_i (av := [.inl v6]) (st := [.inl v5, .inr (.inr (some 38))]) (n := 1) dd_53_83 ca_54 zw_653 zw_655 zv_17 zCs_35 zcl_5 rfl (mt_fc_Text_valueAt e8) rfl ⟨by decide +kernel, by decide⟩ (Nat.le_of_ble_eq_true rfl) ?_
          obtain ⟨g9, h⟩ := z_gd h
          refine zg_iast dd_53_86 zCs_38 g9 ?_
          refine zg_goto (tgt := 174) dd_53_87 (by decide) ?_
          refine zg_iinc dd_53_174 (j := 3) rfl (v := (v6 + (1 : Int32))) (by rw [kI_1]) (Nat.le_of_ble_eq_true rfl) (lv' := [(6, .inl (v6 + (1 : Int32))), (5, .inl (v5 + (1 : Int32))), (7, .inl (I 36 v6.toNatClampNeg)), (0, .inr (.inr (some 35)))]) rfl ?_
          refine zg_goto (tgt := 35) dd_53_177 (by decide) ?_
          refine zg_sub [3, 1, 0] rfl ?_
          exact ih _ _ _ h
      · replace h := z_f h q5
        refine zg_iload dd_53_58 (j := 0) rfl ?_
        refine zg_iconst dd_53_60 kI_1 ?_
        refine zg_icmp_ne (tgt := 90) dd_53_61 (by decide) (fun q10 => ?_) (fun q10 => ?_)
        · replace h := z_f h q10
          refine zg_iload dd_53_90 (j := 0) rfl ?_
          refine zg_bipush dd_53_92 kB_33 ?_
          refine zg_icmp_ne (tgt := 135) dd_53_94 (by decide) (fun q11 => ?_) (fun q11 => ?_)
          · replace h := z_f h q11
            refine zg_iload dd_53_135 (j := 2) rfl ?_
            refine zg_iconst dd_53_137 kI_2 ?_
            refine zg_icmp_lt (tgt := 174) dd_53_138 (by decide) (fun q12 => ?_) (fun q12 => ?_)
            · replace h := z_t h q12
              refine zg_iinc dd_53_174 (j := 3) rfl (v := (v6 + (1 : Int32))) (by rw [kI_1]) (Nat.le_of_ble_eq_true rfl) (lv' := [(6, .inl (v6 + (1 : Int32))), (7, .inl (I 36 v6.toNatClampNeg)), (0, .inr (.inr (some 35))), (5, .inl v5)]) rfl ?_
              refine zg_goto (tgt := 35) dd_53_177 (by decide) ?_
              refine zg_sub [2, 3, 0] rfl ?_
              exact ih _ _ _ h
            · replace h := z_f h q12
              refine zg_iinc dd_53_141 (j := 2) rfl (v := (v5 + (-1 : Int32))) (by rw [kI_m1]) (Nat.le_of_ble_eq_true rfl) (lv' := [(5, .inl (v5 + (-1 : Int32))), (7, .inl (I 36 v6.toNatClampNeg)), (0, .inr (.inr (some 35))), (6, .inl v6)]) rfl ?_
              refine zg_aload_n dd_53_144 rfl (j := 2) rfl ?_
              refine zg_getR dd_53_145 zl_Text_26 zCs_35 rfl zCr_35_4 ?_
              refine zg_iload dd_53_148 (j := 0) rfl ?_
              refine zg_iconst dd_53_150 kI_1 ?_
              refine zg_isub dd_53_151 ?_
              refine zg_iload dd_53_152 (j := 1) rfl ?_
              refine zg_aload_n dd_53_154 rfl (j := 2) rfl ?_
              refine zg_getR dd_53_155 zl_Text_26 zCs_35 rfl zCr_35_4 ?_
              refine zg_iload dd_53_158 (j := 0) rfl ?_
              refine zg_iconst dd_53_160 kI_1 ?_
              refine zg_isub dd_53_161 ?_
              obtain ⟨g13, h⟩ := z_gd h
              refine zg_iald dd_53_162 zCs_38 g13 ?_
              refine zg_aload_n dd_53_163 rfl (j := 2) rfl ?_
              refine zg_getR dd_53_164 zl_Text_26 zCs_35 rfl zCr_35_4 ?_
              refine zg_iload dd_53_167 (j := 0) rfl ?_
              obtain ⟨g14, h⟩ := z_gd h
              refine zg_iald dd_53_169 zCs_38 g14 ?_
              obtain ⟨r15, e16, h⟩ := z_bd h
              refine zg_invS_i (av := [.inl (I 36 v6.toNatClampNeg), .inl (I 38 ((v5 + (-1 : Int32)) - (1 : Int32)).toNatClampNeg), .inl (I 38 (v5 + (-1 : Int32)).toNatClampNeg)]) (st := [.inl ((v5 + (-1 : Int32)) - (1 : Int32)), .inr (.inr (some 38))]) (n := 3) dd_53_170 ca_55 zw_661 zw_662 (mt_fc_Text_combine e16) rfl ⟨by decide +kernel, by decide⟩ (Nat.le_of_ble_eq_true rfl) ?_
              obtain ⟨g17, h⟩ := z_gd h
              refine zg_iast dd_53_173 zCs_38 g17 ?_
              refine zg_iinc dd_53_174 (j := 3) rfl (v := (v6 + (1 : Int32))) (by rw [kI_1]) (Nat.le_of_ble_eq_true rfl) (lv' := [(6, .inl (v6 + (1 : Int32))), (5, .inl (v5 + (-1 : Int32))), (7, .inl (I 36 v6.toNatClampNeg)), (0, .inr (.inr (some 35)))]) rfl ?_
              refine zg_goto (tgt := 35) dd_53_177 (by decide) ?_
              refine zg_sub [3, 1, 0] rfl ?_
              exact ih _ _ _ h
          · replace h := z_t h q11
            refine zg_iload dd_53_97 (j := 2) rfl ?_
            refine zg_iconst dd_53_99 kI_1 ?_
            refine zg_icmp_lt (tgt := 174) dd_53_100 (by decide) (fun q18 => ?_) (fun q18 => ?_)
            · replace h := z_t h q18
              refine zg_iinc dd_53_174 (j := 3) rfl (v := (v6 + (1 : Int32))) (by rw [kI_1]) (Nat.le_of_ble_eq_true rfl) (lv' := [(6, .inl (v6 + (1 : Int32))), (7, .inl (I 36 v6.toNatClampNeg)), (0, .inr (.inr (some 35))), (5, .inl v5)]) rfl ?_
              refine zg_goto (tgt := 35) dd_53_177 (by decide) ?_
              refine zg_sub [2, 3, 0] rfl ?_
              exact ih _ _ _ h
            · replace h := z_f h q18
              refine zg_aload_n dd_53_103 rfl (j := 1) rfl ?_
              refine zg_getR dd_53_104 zl_Text_26 zCs_35 rfl zCr_35_4 ?_
              refine zg_iload dd_53_107 (j := 2) rfl ?_
              refine zg_iconst dd_53_109 kI_1 ?_
              refine zg_isub dd_53_110 ?_
              refine zg_aload_n dd_53_111 rfl (j := 1) rfl ?_
              refine zg_getR dd_53_112 zl_Text_26 zCs_35 rfl zCr_35_4 ?_
              refine zg_iload dd_53_115 (j := 2) rfl ?_
              refine zg_iconst dd_53_117 kI_1 ?_
              refine zg_isub dd_53_118 ?_
              obtain ⟨g19, h⟩ := z_gd h
              refine zg_iald dd_53_119 zCs_38 g19 ?_
              refine zg_if_ne (tgt := 127) dd_53_120 (by decide) (fun q20 => ?_) (fun q20 => ?_)
              · replace h := z_f h q20
                refine zg_iconst dd_53_127 kI_0 ?_
                obtain ⟨r21, e22, h⟩ := z_bd h
                refine zg_invS_i (av := [.inl (0 : Int32)]) (st := [.inl (v5 - (1 : Int32)), .inr (.inr (some 38))]) (n := 1) dd_53_128 ca_56 zw_658 zw_659 (mt_fc_Text_bit e22) rfl ⟨by decide +kernel, by decide⟩ (Nat.le_of_ble_eq_true rfl) ?_
                obtain ⟨g23, h⟩ := z_gd h
                refine zg_iast dd_53_131 zCs_38 g23 ?_
                refine zg_goto (tgt := 174) dd_53_132 (by decide) ?_
                refine zg_iinc dd_53_174 (j := 3) rfl (v := (v6 + (1 : Int32))) (by rw [kI_1]) (Nat.le_of_ble_eq_true rfl) (lv' := [(6, .inl (v6 + (1 : Int32))), (7, .inl (I 36 v6.toNatClampNeg)), (0, .inr (.inr (some 35))), (5, .inl v5)]) rfl ?_
                refine zg_goto (tgt := 35) dd_53_177 (by decide) ?_
                refine zg_sub [2, 3, 0] rfl ?_
                exact ih _ _ _ h
              · replace h := z_t h q20
                refine zg_iconst dd_53_123 kI_1 ?_
                refine zg_goto (tgt := 128) dd_53_124 (by decide) ?_
                obtain ⟨r24, e25, h⟩ := z_bd h
                refine zg_invS_i (av := [.inl (1 : Int32)]) (st := [.inl (v5 - (1 : Int32)), .inr (.inr (some 38))]) (n := 1) dd_53_128 ca_56 zw_658 zw_659 (mt_fc_Text_bit e25) rfl ⟨by decide +kernel, by decide⟩ (Nat.le_of_ble_eq_true rfl) ?_
                obtain ⟨g26, h⟩ := z_gd h
                refine zg_iast dd_53_131 zCs_38 g26 ?_
                refine zg_goto (tgt := 174) dd_53_132 (by decide) ?_
                refine zg_iinc dd_53_174 (j := 3) rfl (v := (v6 + (1 : Int32))) (by rw [kI_1]) (Nat.le_of_ble_eq_true rfl) (lv' := [(6, .inl (v6 + (1 : Int32))), (7, .inl (I 36 v6.toNatClampNeg)), (0, .inr (.inr (some 35))), (5, .inl v5)]) rfl ?_
                refine zg_goto (tgt := 35) dd_53_177 (by decide) ?_
                refine zg_sub [2, 3, 0] rfl ?_
                exact ih _ _ _ h
        · replace h := z_t h q10
          refine zg_iload dd_53_64 (j := 2) rfl ?_
          refine zg_bipush dd_53_66 kB_60 ?_
          refine zg_icmp_ge (tgt := 174) dd_53_68 (by decide) (fun q27 => ?_) (fun q27 => ?_)
          · replace h := z_t h q27
            refine zg_iinc dd_53_174 (j := 3) rfl (v := (v6 + (1 : Int32))) (by rw [kI_1]) (Nat.le_of_ble_eq_true rfl) (lv' := [(6, .inl (v6 + (1 : Int32))), (7, .inl (I 36 v6.toNatClampNeg)), (0, .inr (.inr (some 35))), (5, .inl v5)]) rfl ?_
            refine zg_goto (tgt := 35) dd_53_177 (by decide) ?_
            refine zg_sub [2, 3, 0] rfl ?_
            exact ih _ _ _ h
          · replace h := z_f h q27
            refine zg_aload_n dd_53_71 rfl (j := 1) rfl ?_
            refine zg_getR dd_53_72 zl_Text_26 zCs_35 rfl zCr_35_4 ?_
            refine zg_iload dd_53_75 (j := 2) rfl ?_
            refine zg_iinc dd_53_77 (j := 2) rfl (v := (v5 + (1 : Int32))) (by rw [kI_1]) (Nat.le_of_ble_eq_true rfl) (lv' := [(5, .inl (v5 + (1 : Int32))), (7, .inl (I 36 v6.toNatClampNeg)), (0, .inr (.inr (some 35))), (6, .inl v6)]) rfl ?_
            refine zg_aload_n dd_53_80 rfl (j := 2) rfl ?_
            refine zg_iload dd_53_81 (j := 3) rfl ?_
            obtain ⟨r28, e29, h⟩ := z_bd h
            refine zg_invV_i (av := [.inl v6]) (st := [.inl v5, .inr (.inr (some 38))]) (n := 1) dd_53_83 ca_54 zw_653 zw_655 zv_17 zCs_35 zcl_5 rfl (mt_fc_Text_valueAt e29) rfl ⟨by decide +kernel, by decide⟩ (Nat.le_of_ble_eq_true rfl) ?_
            obtain ⟨g30, h⟩ := z_gd h
            refine zg_iast dd_53_86 zCs_38 g30 ?_
            refine zg_goto (tgt := 174) dd_53_87 (by decide) ?_
            refine zg_iinc dd_53_174 (j := 3) rfl (v := (v6 + (1 : Int32))) (by rw [kI_1]) (Nat.le_of_ble_eq_true rfl) (lv' := [(6, .inl (v6 + (1 : Int32))), (5, .inl (v5 + (1 : Int32))), (7, .inl (I 36 v6.toNatClampNeg)), (0, .inr (.inr (some 35)))]) rfl ?_
            refine zg_goto (tgt := 35) dd_53_177 (by decide) ?_
            refine zg_sub [3, 1, 0] rfl ?_
            exact ih _ _ _ h
set_option maxRecDepth 20000 in
theorem mt_fc_Text_workOut {I : zI} {a1 : Int32} {a2 : Int32} {a3 : Int32} {a4 : Int32} {res : (Int32 × zI)} (h : fc_Text_workOut I a1 a2 a3 a4 = some res) : zM 3 ym_53 [.inr (.inr (some 35)), .inl a1, .inl a2, .inl a3, .inl a4] (zCs, zCr, I) (some (.inl res.1)) (zCs, zCr, res.2) 0 0 := by
  refine zM_of (by decide) (Nat.le_of_ble_eq_true rfl) (lv := [(0, .inr (.inr (some 35))), (1, .inl a1), (2, .inl a2), (3, .inl a3), (4, .inl a4)]) rfl ?_
  rw [fc_Text_workOut] at h
  refine zg_aload_n dd_53_0 rfl (j := 0) rfl ?_
  refine zg_getR dd_53_1 zl_Text_29 zCs_35 rfl zCr_35_5 ?_
  refine zg_iconst dd_53_4 kI_0 ?_
  refine zg_iload_n dd_53_5 rfl (j := 1) rfl ?_
  refine zg_iast dd_53_6 zCs_39 (by decide) ?_
  refine zg_aload_n dd_53_7 rfl (j := 0) rfl ?_
  refine zg_getR dd_53_8 zl_Text_29 zCs_35 rfl zCr_35_5 ?_
  refine zg_iconst dd_53_11 kI_1 ?_
  refine zg_iload_n dd_53_12 rfl (j := 2) rfl ?_
  refine zg_iast dd_53_13 zCs_39 (by decide) ?_
  refine zg_aload_n dd_53_14 rfl (j := 0) rfl ?_
  refine zg_getR dd_53_15 zl_Text_29 zCs_35 rfl zCr_35_5 ?_
  refine zg_iconst dd_53_18 kI_2 ?_
  refine zg_iload_n dd_53_19 rfl (j := 3) rfl ?_
  refine zg_iast dd_53_20 zCs_39 (by decide) ?_
  refine zg_aload_n dd_53_21 rfl (j := 0) rfl ?_
  refine zg_getR dd_53_22 zl_Text_29 zCs_35 rfl zCr_35_5 ?_
  refine zg_iconst dd_53_25 kI_3 ?_
  refine zg_iload dd_53_26 (j := 4) rfl ?_
  refine zg_iast dd_53_28 zCs_39 (by decide) ?_
  refine zg_iconst dd_53_29 kI_0 ?_
  refine zg_istore dd_53_30 (Nat.le_of_ble_eq_true rfl) (lv' := [(5, .inl (0 : Int32)), (0, .inr (.inr (some 35))), (1, .inl a1), (2, .inl a2), (3, .inl a3), (4, .inl a4)]) rfl ?_
  refine zg_iconst dd_53_32 kI_0 ?_
  refine zg_istore dd_53_33 (Nat.le_of_ble_eq_true rfl) (lv' := [(6, .inl (0 : Int32)), (5, .inl (0 : Int32)), (0, .inr (.inr (some 35))), (1, .inl a1), (2, .inl a2), (3, .inl a3), (4, .inl a4)]) rfl ?_
  refine zg_sub [2, 1, 0] rfl ?_
  refine lt_fc_Text_workOut_L35  _ _ _ _ h
/-! java/lang/Math.min[None, None] -/
def fc_JMath_min (I : zI) (a0 : Int32) (a1 : Int32) : Option Int32 :=
  if a1 < a0 then
    some a1
  else
    some a0
set_option maxRecDepth 20000 in
theorem mt_fc_JMath_min {I : zI} {a0 : Int32} {a1 : Int32} {res : Int32} (h : fc_JMath_min I a0 a1 = some res) : zM 1 ym_58 [.inl a0, .inl a1] (zCs, zCr, I) (some (.inl res)) (zCs, zCr, I) 0 0 := by
  refine zM_of (by decide) (Nat.le_of_ble_eq_true rfl) (lv := [(0, .inl a0), (1, .inl a1)]) rfl ?_
  rw [fc_JMath_min] at h
  refine zg_iload_n dd_58_0 rfl (j := 0) rfl ?_
  refine zg_iload_n dd_58_1 rfl (j := 1) rfl ?_
  refine zg_icmp_gt (tgt := 9) dd_58_2 (by decide) (fun q1 => ?_) (fun q1 => ?_)
  · replace h := z_t h q1
    refine zg_iload_n dd_58_9 rfl (j := 1) rfl ?_
    obtain rfl := Option.some.inj h
    exact zg_iret dd_58_10 rfl
  · replace h := z_f h q1
    refine zg_iload_n dd_58_5 rfl (j := 0) rfl ?_
    refine zg_goto (tgt := 10) dd_58_6 (by decide) ?_
    obtain rfl := Option.some.inj h
    exact zg_iret dd_58_10 rfl
/-! java/lang/Math.max[None, None] -/
def fc_JMath_max (I : zI) (a0 : Int32) (a1 : Int32) : Option Int32 :=
  if a0 < a1 then
    some a1
  else
    some a0
set_option maxRecDepth 20000 in
theorem mt_fc_JMath_max {I : zI} {a0 : Int32} {a1 : Int32} {res : Int32} (h : fc_JMath_max I a0 a1 = some res) : zM 1 ym_59 [.inl a0, .inl a1] (zCs, zCr, I) (some (.inl res)) (zCs, zCr, I) 0 0 := by
  refine zM_of (by decide) (Nat.le_of_ble_eq_true rfl) (lv := [(0, .inl a0), (1, .inl a1)]) rfl ?_
  rw [fc_JMath_max] at h
  refine zg_iload_n dd_59_0 rfl (j := 0) rfl ?_
  refine zg_iload_n dd_59_1 rfl (j := 1) rfl ?_
  refine zg_icmp_lt (tgt := 9) dd_59_2 (by decide) (fun q1 => ?_) (fun q1 => ?_)
  · replace h := z_t h q1
    refine zg_iload_n dd_59_9 rfl (j := 1) rfl ?_
    obtain rfl := Option.some.inj h
    exact zg_iret dd_59_10 rfl
  · replace h := z_f h q1
    refine zg_iload_n dd_59_5 rfl (j := 0) rfl ?_
    refine zg_goto (tgt := 10) dd_59_6 (by decide) ?_
    obtain rfl := Option.some.inj h
    exact zg_iret dd_59_10 rfl
/-! TurnedLand.held[None, None, None] -/
def fc_T_held (I : zI) (a0 : Int32) (a1 : Int32) (a2 : Int32) : Option Int32 :=
  (fc_JMath_min I a2 a0).bind fun r1 =>
  (fc_JMath_max I a1 r1).bind fun r3 =>
  some r3
set_option maxRecDepth 20000 in
theorem mt_fc_T_held {I : zI} {a0 : Int32} {a1 : Int32} {a2 : Int32} {res : Int32} (h : fc_T_held I a0 a1 a2 = some res) : zM 2 ym_57 [.inl a0, .inl a1, .inl a2] (zCs, zCr, I) (some (.inl res)) (zCs, zCr, I) 0 0 := by
  refine zM_of (by decide) (Nat.le_of_ble_eq_true rfl) (lv := [(0, .inl a0), (1, .inl a1), (2, .inl a2)]) rfl ?_
  rw [fc_T_held] at h
  refine zg_iload_n dd_57_0 rfl (j := 1) rfl ?_
  refine zg_iload_n dd_57_1 rfl (j := 2) rfl ?_
  refine zg_iload_n dd_57_2 rfl (j := 0) rfl ?_
  obtain ⟨r1, e2, h⟩ := z_bd h
  refine zg_invS_i (av := [.inl a2, .inl a0]) (st := [.inl a1]) (n := 2) dd_57_3 ca_58 zw_667 zw_668 (mt_fc_JMath_min e2) rfl ⟨by decide +kernel, by decide⟩ (Nat.le_of_ble_eq_true rfl) ?_
  obtain ⟨r3, e4, h⟩ := z_bd h
  refine zg_invS_i (av := [.inl a1, .inl r1]) (st := []) (n := 2) dd_57_6 ca_59 zw_670 zw_671 (mt_fc_JMath_max e4) rfl ⟨by decide +kernel, by decide⟩ (Nat.le_of_ble_eq_true rfl) ?_
  obtain rfl := Option.some.inj h
  exact zg_iret dd_57_9 rfl
/-! TurnedLand$World.hours[1, None, None] -/
def fc_World_hours (I : zI) (a1 : Int32) (a2 : Int32) : Option (Int32 × zI) :=
  (fc_Ground_comesTo I a1 a2).bind fun r1 =>
  if r1 = (-1 : Int32) then
    some ((0 : Int32), I)
  else
    z_guard (zb (a1 / (2 : Int32)) 8) <|
    if (I 35 0) = 0 then
      some ((I 3 (a1 / (2 : Int32)).toNatClampNeg), I)
    else
      z_guard (zb (r1 / (2 : Int32)) 8) <|
      (fc_Text_workOut I (I 3 (a1 / (2 : Int32)).toNatClampNeg) (I 3 (r1 / (2 : Int32)).toNatClampNeg) (a1 % (2 : Int32)) ((a1 ^^^ r1) &&& (1 : Int32))).bind fun r7 =>
      (fc_T_held r7.2 r7.1 (1 : Int32) (999 : Int32)).bind fun r9 =>
      some (r9, r7.2)
set_option maxRecDepth 20000 in
theorem mt_fc_World_hours {I : zI} {a1 : Int32} {a2 : Int32} {res : (Int32 × zI)} (h : fc_World_hours I a1 a2 = some res) : zM 4 ym_52 [.inr (.inr (some 1)), .inl a1, .inl a2] (zCs, zCr, I) (some (.inl res.1)) (zCs, zCr, res.2) 0 0 := by
  refine zM_of (by decide) (Nat.le_of_ble_eq_true rfl) (lv := [(0, .inr (.inr (some 1))), (1, .inl a1), (2, .inl a2)]) rfl ?_
  rw [fc_World_hours] at h
  refine zg_aload_n dd_52_0 rfl (j := 0) rfl ?_
  refine zg_getR dd_52_1 zl_World_12 zCs_1 rfl zCr_1_0 ?_
  refine zg_iload_n dd_52_4 rfl (j := 1) rfl ?_
  refine zg_iload_n dd_52_5 rfl (j := 2) rfl ?_
  obtain ⟨r1, e2, h⟩ := z_bd h
  refine zg_invV_i (av := [.inl a1, .inl a2]) (st := []) (n := 2) dd_52_6 ca_51 zw_648 zw_640 zw_641 zCs_2 zcl_2 rfl (mt_fc_Ground_comesTo e2) rfl ⟨by decide +kernel, by decide⟩ (Nat.le_of_ble_eq_true rfl) ?_
  refine zg_istore_n dd_52_9 rfl (Nat.le_of_ble_eq_true rfl) (lv' := [(3, .inl r1), (0, .inr (.inr (some 1))), (1, .inl a1), (2, .inl a2)]) rfl ?_
  refine zg_iload_n dd_52_10 rfl (j := 0) rfl ?_
  refine zg_iconst dd_52_11 kI_m1 ?_
  refine zg_icmp_ne (tgt := 17) dd_52_12 (by decide) (fun q3 => ?_) (fun q3 => ?_)
  · replace h := z_f h q3
    refine zg_aload_n dd_52_17 rfl (j := 1) rfl ?_
    refine zg_getR dd_52_18 zl_World_12 zCs_1 rfl zCr_1_0 ?_
    refine zg_getR dd_52_21 zl_World_93 zCs_2 rfl zCr_2_1 ?_
    refine zg_iload_n dd_52_24 rfl (j := 2) rfl ?_
    refine zg_iconst dd_52_25 kI_2 ?_
    refine zg_idiv dd_52_26 (by decide) ?_
    obtain ⟨g4, h⟩ := z_gd h
    refine zg_iald dd_52_27 zCs_3 g4 ?_
    refine zg_istore dd_52_28 (Nat.le_of_ble_eq_true rfl) (lv' := [(4, .inl (I 3 (a1 / (2 : Int32)).toNatClampNeg)), (3, .inl r1), (0, .inr (.inr (some 1))), (1, .inl a1), (2, .inl a2)]) rfl ?_
    refine zg_aload_n dd_52_30 rfl (j := 2) rfl ?_
    refine zg_getR dd_52_31 zl_World_42 zCs_1 rfl zCr_1_4 ?_
    refine zg_getI dd_52_34 zl_World_96 zCs_35 rfl ?_
    refine zg_if_ne (tgt := 43) dd_52_37 (by decide) (fun q5 => ?_) (fun q5 => ?_)
    · replace h := z_f h q5
      refine zg_iload_n dd_52_43 rfl (j := 3) rfl ?_
      refine zg_iload_n dd_52_44 rfl (j := 1) rfl ?_
      refine zg_ixor dd_52_45 ?_
      refine zg_iconst dd_52_46 kI_1 ?_
      refine zg_iand dd_52_47 ?_
      refine zg_istore dd_52_48 (Nat.le_of_ble_eq_true rfl) (lv' := [(5, .inl ((a1 ^^^ r1) &&& (1 : Int32))), (4, .inl (I 3 (a1 / (2 : Int32)).toNatClampNeg)), (3, .inl r1), (0, .inr (.inr (some 1))), (1, .inl a1), (2, .inl a2)]) rfl ?_
      refine zg_aload_n dd_52_50 rfl (j := 3) rfl ?_
      refine zg_getR dd_52_51 zl_World_42 zCs_1 rfl zCr_1_4 ?_
      refine zg_iload dd_52_54 (j := 1) rfl ?_
      refine zg_aload_n dd_52_56 rfl (j := 3) rfl ?_
      refine zg_getR dd_52_57 zl_World_12 zCs_1 rfl zCr_1_0 ?_
      refine zg_getR dd_52_60 zl_World_93 zCs_2 rfl zCr_2_1 ?_
      refine zg_iload_n dd_52_63 rfl (j := 2) rfl ?_
      refine zg_iconst dd_52_64 kI_2 ?_
      refine zg_idiv dd_52_65 (by decide) ?_
      obtain ⟨g6, h⟩ := z_gd h
      refine zg_iald dd_52_66 zCs_3 g6 ?_
      refine zg_iload_n dd_52_67 rfl (j := 4) rfl ?_
      refine zg_iconst dd_52_68 kI_2 ?_
      refine zg_irem dd_52_69 (by decide) ?_
      refine zg_iload dd_52_70 (j := 0) rfl ?_
      obtain ⟨r7, e8, h⟩ := z_bd h
      refine zg_invV_i (av := [.inl (I 3 (a1 / (2 : Int32)).toNatClampNeg), .inl (I 3 (r1 / (2 : Int32)).toNatClampNeg), .inl (a1 % (2 : Int32)), .inl ((a1 ^^^ r1) &&& (1 : Int32))]) (st := []) (n := 4) dd_52_72 ca_53 zw_649 zw_650 zw_651 zCs_35 zcl_5 rfl (mt_fc_Text_workOut e8) rfl ⟨by decide +kernel, by decide⟩ (Nat.le_of_ble_eq_true rfl) ?_
      refine zg_istore dd_52_75 (Nat.le_of_ble_eq_true rfl) (lv' := [(6, .inl r7.1), (5, .inl ((a1 ^^^ r1) &&& (1 : Int32))), (4, .inl (I 3 (a1 / (2 : Int32)).toNatClampNeg)), (3, .inl r1), (0, .inr (.inr (some 1))), (1, .inl a1), (2, .inl a2)]) rfl ?_
      refine zg_iload dd_52_77 (j := 0) rfl ?_
      refine zg_iconst dd_52_79 kI_1 ?_
      refine zg_sipush dd_52_80 kS_999 ?_
      obtain ⟨r9, e10, h⟩ := z_bd h
      refine zg_invSN_i (av := [.inl r7.1, .inl (1 : Int32), .inl (999 : Int32)]) (st := []) (n := 3) dd_52_83 ca_57 (List.mem_of_getElem? (i := 13) rfl) zw_665 (mt_fc_T_held e10) rfl ⟨by decide +kernel, by decide⟩ (Nat.le_of_ble_eq_true rfl) ?_
      obtain rfl := Option.some.inj h
      exact zg_iret dd_52_86 rfl
    · replace h := z_t h q5
      refine zg_iload dd_52_40 (j := 0) rfl ?_
      obtain rfl := Option.some.inj h
      exact zg_iret dd_52_42 rfl
  · replace h := z_t h q3
    refine zg_iconst dd_52_15 kI_0 ?_
    obtain rfl := Option.some.inj h
    exact zg_iret dd_52_16 rfl
/-! TurnedLand$Ways.survey[104, 1] -/
def fc_Ways_survey_L25 (k67 : Int32 → zI → Option zI) : Nat → Int32 → Int32 → zI → Option zI
  | 0, _, _, _ => none
  | nf + 1, v2, v3, I =>
    if (4 : Int32) ≤ v3 then
      k67 v2 I
    else
      z_guard (zb v2 16) <|
      (fc_Ground_comesTo I v2 v3).bind fun r4 =>
      z_guard (zb v3 4) <|
      z_guard (zb v2 16) <|
      (fc_World_hours (zup I (108 + v2.toNatClampNeg) v3.toNatClampNeg r4) v2 v3).bind fun r8 =>
      z_guard (zb v3 4) <|
      fc_Ways_survey_L25 k67 nf v2 (v3 + (1 : Int32)) (zup r8.2 (125 + v2.toNatClampNeg) v3.toNatClampNeg r8.1)
def fc_Ways_survey_L15 : Nat → Int32 → zI → Option zI
  | 0, _, _ => none
  | nf + 1, v2, I =>
    if (I 104 4) ≤ v2 then
      some I
    else
      fc_Ways_survey_L25
        (fun (u11 : Int32) (J12 : zI) =>
          fc_Ways_survey_L15 nf (u11 + (1 : Int32)) J12
        )
        100 v2 (0 : Int32) I
def fc_Ways_survey (I : zI) : Option zI :=
  fc_Ways_survey_L15
    100 (0 : Int32) (zup I 104 4 ((2 : Int32) * (I 2 0)))
set_option maxRecDepth 20000 in
theorem lt_fc_Ways_survey_L25 {res : zI} {k67 : Int32 → zI → Option zI} (hk67 : ∀ (v2 : Int32) (J : zI), k67 v2 J = some res → zG 5 ym_50 0 0 none (zCs, zCr, res) zCs.length 67 [(0, .inr (.inr (some 104))), (1, .inr (.inr (some 1))), (2, .inl v2)] [] (zCs, zCr, J) 0 0) : ∀ (nf : Nat) (v2 : Int32) (v3 : Int32) (I : zI), fc_Ways_survey_L25 k67 nf v2 v3 I = some res → zG 5 ym_50 0 0 none (zCs, zCr, res) zCs.length 25 [(0, .inr (.inr (some 104))), (1, .inr (.inr (some 1))), (2, .inl v2), (3, .inl v3)] [] (zCs, zCr, I) 0 0 := by
  intro nf
  induction nf with
  | zero =>
    intro v2 v3 I h
    have h2 : none = some res := h
    cases h2
  | succ nf ih =>
    intro v2 v3 I h
    rw [fc_Ways_survey_L25] at h
    refine zg_iload_n dd_50_25 rfl (j := 3) rfl ?_
    refine zg_iconst dd_50_26 kI_4 ?_
    refine zg_icmp_ge (tgt := 67) dd_50_27 (by decide) (fun q2 => ?_) (fun q2 => ?_)
    · replace h := z_t h q2
      refine zg_sub [0, 1, 2] rfl ?_
      exact hk67 _ _ h
    · replace h := z_f h q2
      refine zg_aload_n dd_50_30 rfl (j := 0) rfl ?_
      refine zg_getR dd_50_31 zl_Ways_20 zCs_104 rfl zCr_104_2 ?_
      refine zg_iload_n dd_50_34 rfl (j := 2) rfl ?_
      obtain ⟨g3, h⟩ := z_gd h
      refine zg_aald1 dd_50_35 zCs_107 g3 (zrR_C_107 g3) ?_
      refine zg_iload_n dd_50_36 rfl (j := 3) rfl ?_
      refine zg_aload_n dd_50_37 rfl (j := 1) rfl ?_
      refine zg_getR dd_50_38 zl_Ways_30 zCs_1 rfl zCr_1_0 ?_
      refine zg_iload_n dd_50_41 rfl (j := 2) rfl ?_
      refine zg_iload_n dd_50_42 rfl (j := 3) rfl ?_
      obtain ⟨r4, e5, h⟩ := z_bd h
      refine zg_invV_i (av := [.inl v2, .inl v3]) (st := [.inl v3, .inr (.inr (some (108 + v2.toNatClampNeg)))]) (n := 2) dd_50_43 ca_51 zw_639 zw_640 zw_641 zCs_2 zcl_2 rfl (mt_fc_Ground_comesTo e5) rfl ⟨by decide +kernel, by decide⟩ (Nat.le_of_ble_eq_true rfl) ?_
      obtain ⟨g6, h⟩ := z_gd h
      refine zg_iast dd_50_46 (zrS_C_107 g3) g6 ?_
      refine zg_aload_n dd_50_47 rfl (j := 0) rfl ?_
      refine zg_getR dd_50_48 zl_Ways_23 zCs_104 rfl zCr_104_3 ?_
      refine zg_iload_n dd_50_51 rfl (j := 2) rfl ?_
      obtain ⟨g7, h⟩ := z_gd h
      refine zg_aald1 dd_50_52 zCs_124 g7 (zrR_C_124 g7) ?_
      refine zg_iload_n dd_50_53 rfl (j := 3) rfl ?_
      refine zg_aload_n dd_50_54 rfl (j := 1) rfl ?_
      refine zg_iload_n dd_50_55 rfl (j := 2) rfl ?_
      refine zg_iload_n dd_50_56 rfl (j := 3) rfl ?_
      obtain ⟨r8, e9, h⟩ := z_bd h
      refine zg_invV_i (av := [.inl v2, .inl v3]) (st := [.inl v3, .inr (.inr (some (125 + v2.toNatClampNeg)))]) (n := 2) dd_50_57 ca_52 zw_644 zw_645 zw_646 zCs_1 zcl_10 rfl (mt_fc_World_hours e9) rfl ⟨by decide +kernel, by decide⟩ (Nat.le_of_ble_eq_true rfl) ?_
      obtain ⟨g10, h⟩ := z_gd h
      refine zg_iast dd_50_60 (zrS_C_124 g7) g10 ?_
      refine zg_iinc dd_50_61 (j := 3) rfl (v := (v3 + (1 : Int32))) (by rw [kI_1]) (Nat.le_of_ble_eq_true rfl) (lv' := [(3, .inl (v3 + (1 : Int32))), (0, .inr (.inr (some 104))), (1, .inr (.inr (some 1))), (2, .inl v2)]) rfl ?_
      refine zg_goto (tgt := 25) dd_50_64 (by decide) ?_
      refine zg_sub [1, 2, 3, 0] rfl ?_
      exact ih _ _ _ h
set_option maxRecDepth 20000 in
theorem lt_fc_Ways_survey_L15 {res : zI} : ∀ (nf : Nat) (v2 : Int32) (I : zI), fc_Ways_survey_L15 nf v2 I = some res → zG 5 ym_50 0 0 none (zCs, zCr, res) zCs.length 15 [(0, .inr (.inr (some 104))), (1, .inr (.inr (some 1))), (2, .inl v2)] [] (zCs, zCr, I) 0 0 := by
  intro nf
  induction nf with
  | zero =>
    intro v2 I h
    have h2 : none = some res := h
    cases h2
  | succ nf ih =>
    intro v2 I h
    rw [fc_Ways_survey_L15] at h
    refine zg_iload_n dd_50_15 rfl (j := 2) rfl ?_
    refine zg_aload_n dd_50_16 rfl (j := 0) rfl ?_
    refine zg_getI dd_50_17 zl_Ways_26 zCs_104 rfl ?_
    refine zg_icmp_ge (tgt := 73) dd_50_20 (by decide) (fun q1 => ?_) (fun q1 => ?_)
    · replace h := z_t h q1
      obtain rfl := Option.some.inj h
      exact zg_vret dd_50_73 rfl
    · replace h := z_f h q1
      refine zg_iconst dd_50_23 kI_0 ?_
      refine zg_istore_n dd_50_24 rfl (Nat.le_of_ble_eq_true rfl) (lv' := [(3, .inl (0 : Int32)), (0, .inr (.inr (some 104))), (1, .inr (.inr (some 1))), (2, .inl v2)]) rfl ?_
      refine zg_sub [1, 2, 3, 0] rfl ?_
      refine lt_fc_Ways_survey_L25 ?_ _ _ _ _ h
      · intro u11 J12 h
        beta_reduce at h
        refine zg_iinc dd_50_67 (j := 2) rfl (v := (u11 + (1 : Int32))) (by rw [kI_1]) (Nat.le_of_ble_eq_true rfl) (lv' := [(2, .inl (u11 + (1 : Int32))), (0, .inr (.inr (some 104))), (1, .inr (.inr (some 1)))]) rfl ?_
        refine zg_goto (tgt := 15) dd_50_70 (by decide) ?_
        refine zg_sub [1, 2, 0] rfl ?_
        exact ih _ _ h
set_option maxRecDepth 20000 in
theorem mt_fc_Ways_survey {I : zI} {res : zI} (h : fc_Ways_survey I = some res) : zM 5 ym_50 [.inr (.inr (some 104)), .inr (.inr (some 1))] (zCs, zCr, I) none (zCs, zCr, res) 0 0 := by
  refine zM_of (by decide) (Nat.le_of_ble_eq_true rfl) (lv := [(0, .inr (.inr (some 104))), (1, .inr (.inr (some 1)))]) rfl ?_
  rw [fc_Ways_survey] at h
  refine zg_aload_n dd_50_0 rfl (j := 0) rfl ?_
  refine zg_iconst dd_50_1 kI_2 ?_
  refine zg_aload_n dd_50_2 rfl (j := 1) rfl ?_
  refine zg_getR dd_50_3 zl_Ways_30 zCs_1 rfl zCr_1_0 ?_
  refine zg_getI dd_50_6 zl_Ways_36 zCs_2 rfl ?_
  refine zg_imul dd_50_9 ?_
  refine zg_putI dd_50_10 zp_Ways_26 zCs_104 rfl (zSt_int _) ?_
  refine zg_iconst dd_50_13 kI_0 ?_
  refine zg_istore_n dd_50_14 rfl (Nat.le_of_ble_eq_true rfl) (lv' := [(2, .inl (0 : Int32)), (0, .inr (.inr (some 104))), (1, .inr (.inr (some 1)))]) rfl ?_
  refine zg_sub [1, 2, 0] rfl ?_
  refine lt_fc_Ways_survey_L15  _ _ _ h
/-! TurnedLand$Ways.nearest[104, None] -/
def fc_Ways_nearest_L4 (I : zI) : Nat → Int32 → Int32 → Int32 → Option Int32
  | 0, _, _, _ => none
  | nf + 1, v1, v2, v3 =>
    if (I 104 4) ≤ v3 then
      some v2
    else
      if ((v1 >>> (v3 &&& 31)) &&& (1 : Int32)) = (1 : Int32) then
        z_guard (zb v3 16) <|
        if (I 105 v3.toNatClampNeg) < 0 then
          fc_Ways_nearest_L4 I nf v1 v2 (v3 + (1 : Int32))
        else
          if v2 = (-1 : Int32) then
            fc_Ways_nearest_L4 I nf v1 v3 (v3 + (1 : Int32))
          else
            z_guard (zb v3 16) <|
            z_guard (zb v2 16) <|
            if (I 105 v2.toNatClampNeg) ≤ (I 105 v3.toNatClampNeg) then
              fc_Ways_nearest_L4 I nf v1 v2 (v3 + (1 : Int32))
            else
              fc_Ways_nearest_L4 I nf v1 v3 (v3 + (1 : Int32))
      else
        fc_Ways_nearest_L4 I nf v1 v2 (v3 + (1 : Int32))
def fc_Ways_nearest (I : zI) (a1 : Int32) : Option Int32 :=
  fc_Ways_nearest_L4 I
    100 a1 (-1 : Int32) (0 : Int32)
set_option maxRecDepth 20000 in
theorem lt_fc_Ways_nearest_L4 {res : Int32} {I : zI} : ∀ (nf : Nat) (v1 : Int32) (v2 : Int32) (v3 : Int32), fc_Ways_nearest_L4 I nf v1 v2 v3 = some res → zG 1 ym_61 0 0 (some (.inl res)) (zCs, zCr, I) zCs.length 4 [(0, .inr (.inr (some 104))), (1, .inl v1), (2, .inl v2), (3, .inl v3)] [] (zCs, zCr, I) 0 0 := by
  intro nf
  induction nf with
  | zero =>
    intro v1 v2 v3 h
    have h2 : none = some res := h
    cases h2
  | succ nf ih =>
    intro v1 v2 v3 h
    rw [fc_Ways_nearest_L4] at h
    refine zg_iload_n dd_61_4 rfl (j := 3) rfl ?_
    refine zg_aload_n dd_61_5 rfl (j := 0) rfl ?_
    refine zg_getI dd_61_6 zl_Ways_26 zCs_104 rfl ?_
    refine zg_icmp_ge (tgt := 70) dd_61_9 (by decide) (fun q1 => ?_) (fun q1 => ?_)
    · replace h := z_t h q1
      refine zg_iload_n dd_61_70 rfl (j := 2) rfl ?_
      obtain rfl := Option.some.inj h
      exact zg_iret dd_61_71 rfl
    · replace h := z_f h q1
      refine zg_iload_n dd_61_12 rfl (j := 1) rfl ?_
      refine zg_iload_n dd_61_13 rfl (j := 3) rfl ?_
      refine zg_ishr dd_61_14 ?_
      refine zg_iconst dd_61_15 kI_1 ?_
      refine zg_iand dd_61_16 ?_
      refine zg_iconst dd_61_17 kI_1 ?_
      refine zg_icmp_ne (tgt := 34) dd_61_18 (by decide) (fun q2 => ?_) (fun q2 => ?_)
      · replace h := z_f h q2
        refine zg_iconst dd_61_34 kI_0 ?_
        refine zg_istore dd_61_35 (Nat.le_of_ble_eq_true rfl) (lv' := [(4, .inl (0 : Int32)), (0, .inr (.inr (some 104))), (1, .inl v1), (2, .inl v2), (3, .inl v3)]) rfl ?_
        refine zg_iload dd_61_37 (j := 0) rfl ?_
        refine zg_if_eq (tgt := 64) dd_61_39 (by decide) (fun _ => ?_) (fun q3 => absurd q3 (by decide))
        refine zg_iinc dd_61_64 (j := 4) rfl (v := (v3 + (1 : Int32))) (by rw [kI_1]) (Nat.le_of_ble_eq_true rfl) (lv' := [(3, .inl (v3 + (1 : Int32))), (4, .inl (0 : Int32)), (0, .inr (.inr (some 104))), (1, .inl v1), (2, .inl v2)]) rfl ?_
        refine zg_goto (tgt := 4) dd_61_67 (by decide) ?_
        refine zg_sub [2, 3, 4, 0] rfl ?_
        exact ih _ _ _ h
      · replace h := z_t h q2
        refine zg_aload_n dd_61_21 rfl (j := 0) rfl ?_
        refine zg_getR dd_61_22 zl_Ways_9 zCs_104 rfl zCr_104_0 ?_
        refine zg_iload_n dd_61_25 rfl (j := 3) rfl ?_
        obtain ⟨g4, h⟩ := z_gd h
        refine zg_iald dd_61_26 zCs_105 g4 ?_
        refine zg_if_lt (tgt := 34) dd_61_27 (by decide) (fun q5 => ?_) (fun q5 => ?_)
        · replace h := z_t h q5
          refine zg_iconst dd_61_34 kI_0 ?_
          refine zg_istore dd_61_35 (Nat.le_of_ble_eq_true rfl) (lv' := [(4, .inl (0 : Int32)), (0, .inr (.inr (some 104))), (1, .inl v1), (2, .inl v2), (3, .inl v3)]) rfl ?_
          refine zg_iload dd_61_37 (j := 0) rfl ?_
          refine zg_if_eq (tgt := 64) dd_61_39 (by decide) (fun _ => ?_) (fun q6 => absurd q6 (by decide))
          refine zg_iinc dd_61_64 (j := 4) rfl (v := (v3 + (1 : Int32))) (by rw [kI_1]) (Nat.le_of_ble_eq_true rfl) (lv' := [(3, .inl (v3 + (1 : Int32))), (4, .inl (0 : Int32)), (0, .inr (.inr (some 104))), (1, .inl v1), (2, .inl v2)]) rfl ?_
          refine zg_goto (tgt := 4) dd_61_67 (by decide) ?_
          refine zg_sub [2, 3, 4, 0] rfl ?_
          exact ih _ _ _ h
        · replace h := z_f h q5
          refine zg_iconst dd_61_30 kI_1 ?_
          refine zg_goto (tgt := 35) dd_61_31 (by decide) ?_
          refine zg_istore dd_61_35 (Nat.le_of_ble_eq_true rfl) (lv' := [(4, .inl (1 : Int32)), (0, .inr (.inr (some 104))), (1, .inl v1), (2, .inl v2), (3, .inl v3)]) rfl ?_
          refine zg_iload dd_61_37 (j := 0) rfl ?_
          refine zg_if_eq (tgt := 64) dd_61_39 (by decide) (fun q7 => absurd q7 (by decide)) (fun _ => ?_)
          refine zg_iload_n dd_61_42 rfl (j := 3) rfl ?_
          refine zg_iconst dd_61_43 kI_m1 ?_
          refine zg_icmp_eq (tgt := 62) dd_61_44 (by decide) (fun q8 => ?_) (fun q8 => ?_)
          · replace h := z_t h q8
            refine zg_iload_n dd_61_62 rfl (j := 4) rfl ?_
            refine zg_istore_n dd_61_63 rfl (Nat.le_of_ble_eq_true rfl) (lv' := [(2, .inl v3), (4, .inl (1 : Int32)), (0, .inr (.inr (some 104))), (1, .inl v1), (3, .inl v3)]) rfl ?_
            refine zg_iinc dd_61_64 (j := 4) rfl (v := (v3 + (1 : Int32))) (by rw [kI_1]) (Nat.le_of_ble_eq_true rfl) (lv' := [(3, .inl (v3 + (1 : Int32))), (2, .inl v3), (4, .inl (1 : Int32)), (0, .inr (.inr (some 104))), (1, .inl v1)]) rfl ?_
            refine zg_goto (tgt := 4) dd_61_67 (by decide) ?_
            refine zg_sub [3, 4, 1, 0] rfl ?_
            exact ih _ _ _ h
          · replace h := z_f h q8
            refine zg_aload_n dd_61_47 rfl (j := 1) rfl ?_
            refine zg_getR dd_61_48 zl_Ways_9 zCs_104 rfl zCr_104_0 ?_
            refine zg_iload_n dd_61_51 rfl (j := 4) rfl ?_
            obtain ⟨g9, h⟩ := z_gd h
            refine zg_iald dd_61_52 zCs_105 g9 ?_
            refine zg_aload_n dd_61_53 rfl (j := 1) rfl ?_
            refine zg_getR dd_61_54 zl_Ways_9 zCs_104 rfl zCr_104_0 ?_
            refine zg_iload_n dd_61_57 rfl (j := 3) rfl ?_
            obtain ⟨g10, h⟩ := z_gd h
            refine zg_iald dd_61_58 zCs_105 g10 ?_
            refine zg_icmp_ge (tgt := 64) dd_61_59 (by decide) (fun q11 => ?_) (fun q11 => ?_)
            · replace h := z_t h q11
              refine zg_iinc dd_61_64 (j := 4) rfl (v := (v3 + (1 : Int32))) (by rw [kI_1]) (Nat.le_of_ble_eq_true rfl) (lv' := [(3, .inl (v3 + (1 : Int32))), (4, .inl (1 : Int32)), (0, .inr (.inr (some 104))), (1, .inl v1), (2, .inl v2)]) rfl ?_
              refine zg_goto (tgt := 4) dd_61_67 (by decide) ?_
              refine zg_sub [2, 3, 4, 0] rfl ?_
              exact ih _ _ _ h
            · replace h := z_f h q11
              refine zg_iload_n dd_61_62 rfl (j := 4) rfl ?_
              refine zg_istore_n dd_61_63 rfl (Nat.le_of_ble_eq_true rfl) (lv' := [(2, .inl v3), (4, .inl (1 : Int32)), (0, .inr (.inr (some 104))), (1, .inl v1), (3, .inl v3)]) rfl ?_
              refine zg_iinc dd_61_64 (j := 4) rfl (v := (v3 + (1 : Int32))) (by rw [kI_1]) (Nat.le_of_ble_eq_true rfl) (lv' := [(3, .inl (v3 + (1 : Int32))), (2, .inl v3), (4, .inl (1 : Int32)), (0, .inr (.inr (some 104))), (1, .inl v1)]) rfl ?_
              refine zg_goto (tgt := 4) dd_61_67 (by decide) ?_
              refine zg_sub [3, 4, 1, 0] rfl ?_
              exact ih _ _ _ h
set_option maxRecDepth 20000 in
theorem mt_fc_Ways_nearest {I : zI} {a1 : Int32} {res : Int32} (h : fc_Ways_nearest I a1 = some res) : zM 1 ym_61 [.inr (.inr (some 104)), .inl a1] (zCs, zCr, I) (some (.inl res)) (zCs, zCr, I) 0 0 := by
  refine zM_of (by decide) (Nat.le_of_ble_eq_true rfl) (lv := [(0, .inr (.inr (some 104))), (1, .inl a1)]) rfl ?_
  rw [fc_Ways_nearest] at h
  refine zg_iconst dd_61_0 kI_m1 ?_
  refine zg_istore_n dd_61_1 rfl (Nat.le_of_ble_eq_true rfl) (lv' := [(2, .inl (-1 : Int32)), (0, .inr (.inr (some 104))), (1, .inl a1)]) rfl ?_
  refine zg_iconst dd_61_2 kI_0 ?_
  refine zg_istore_n dd_61_3 rfl (Nat.le_of_ble_eq_true rfl) (lv' := [(3, .inl (0 : Int32)), (2, .inl (-1 : Int32)), (0, .inr (.inr (some 104))), (1, .inl a1)]) rfl ?_
  refine zg_sub [2, 3, 1, 0] rfl ?_
  refine lt_fc_Ways_nearest_L4  _ _ _ _ h
/-! TurnedLand$Ways.comeTo[104, None, None, None] -/
def fc_Ways_comeTo (I : zI) (a1 : Int32) (a2 : Int32) (a3 : Int32) : Option zI :=
  z_guard (zb a1 16) <|
  if (I 105 a1.toNatClampNeg) < 0 then
    z_guard (zb a1 16) <|
    z_guard (zb a1 16) <|
    some (zup (zup I 105 a1.toNatClampNeg a2) 106 a1.toNatClampNeg a3)
  else
    z_guard (zb a1 16) <|
    if (I 105 a1.toNatClampNeg) ≤ a2 then
      z_guard (zb a1 16) <|
      if a2 = (I 105 a1.toNatClampNeg) then
        z_guard (zb a1 16) <|
        z_guard (zb a1 16) <|
        some (zup I 106 a1.toNatClampNeg ((I 106 a1.toNatClampNeg) ||| a3))
      else
        some I
    else
      z_guard (zb a1 16) <|
      z_guard (zb a1 16) <|
      some (zup (zup I 105 a1.toNatClampNeg a2) 106 a1.toNatClampNeg a3)
set_option maxRecDepth 20000 in
theorem mt_fc_Ways_comeTo {I : zI} {a1 : Int32} {a2 : Int32} {a3 : Int32} {res : zI} (h : fc_Ways_comeTo I a1 a2 a3 = some res) : zM 1 ym_62 [.inr (.inr (some 104)), .inl a1, .inl a2, .inl a3] (zCs, zCr, I) none (zCs, zCr, res) 0 0 := by
  refine zM_of (by decide) (Nat.le_of_ble_eq_true rfl) (lv := [(0, .inr (.inr (some 104))), (1, .inl a1), (2, .inl a2), (3, .inl a3)]) rfl ?_
  rw [fc_Ways_comeTo] at h
  refine zg_aload_n dd_62_0 rfl (j := 0) rfl ?_
  refine zg_getR dd_62_1 zl_Ways_9 zCs_104 rfl zCr_104_0 ?_
  refine zg_iload_n dd_62_4 rfl (j := 1) rfl ?_
  obtain ⟨g1, h⟩ := z_gd h
  refine zg_iald dd_62_5 zCs_105 g1 ?_
  refine zg_if_lt (tgt := 19) dd_62_6 (by decide) (fun q2 => ?_) (fun q2 => ?_)
  · replace h := z_t h q2
    refine zg_aload_n dd_62_19 rfl (j := 0) rfl ?_
    refine zg_getR dd_62_20 zl_Ways_9 zCs_104 rfl zCr_104_0 ?_
    refine zg_iload_n dd_62_23 rfl (j := 1) rfl ?_
    refine zg_iload_n dd_62_24 rfl (j := 2) rfl ?_
    obtain ⟨g3, h⟩ := z_gd h
    refine zg_iast dd_62_25 zCs_105 g3 ?_
    refine zg_aload_n dd_62_26 rfl (j := 0) rfl ?_
    refine zg_getR dd_62_27 zl_Ways_15 zCs_104 rfl zCr_104_1 ?_
    refine zg_iload_n dd_62_30 rfl (j := 1) rfl ?_
    refine zg_iload_n dd_62_31 rfl (j := 3) rfl ?_
    obtain ⟨g4, h⟩ := z_gd h
    refine zg_iast dd_62_32 zCs_106 g4 ?_
    refine zg_goto (tgt := 56) dd_62_33 (by decide) ?_
    obtain rfl := Option.some.inj h
    exact zg_vret dd_62_56 rfl
  · replace h := z_f h q2
    refine zg_iload_n dd_62_9 rfl (j := 2) rfl ?_
    refine zg_aload_n dd_62_10 rfl (j := 0) rfl ?_
    refine zg_getR dd_62_11 zl_Ways_9 zCs_104 rfl zCr_104_0 ?_
    refine zg_iload_n dd_62_14 rfl (j := 1) rfl ?_
    obtain ⟨g5, h⟩ := z_gd h
    refine zg_iald dd_62_15 zCs_105 g5 ?_
    refine zg_icmp_ge (tgt := 36) dd_62_16 (by decide) (fun q6 => ?_) (fun q6 => ?_)
    · replace h := z_t h q6
      refine zg_iload_n dd_62_36 rfl (j := 2) rfl ?_
      refine zg_aload_n dd_62_37 rfl (j := 0) rfl ?_
      refine zg_getR dd_62_38 zl_Ways_9 zCs_104 rfl zCr_104_0 ?_
      refine zg_iload_n dd_62_41 rfl (j := 1) rfl ?_
      obtain ⟨g7, h⟩ := z_gd h
      refine zg_iald dd_62_42 zCs_105 g7 ?_
      refine zg_icmp_ne (tgt := 56) dd_62_43 (by decide) (fun q8 => ?_) (fun q8 => ?_)
      · replace h := z_f h q8
        obtain rfl := Option.some.inj h
        exact zg_vret dd_62_56 rfl
      · replace h := z_t h q8
        refine zg_aload_n dd_62_46 rfl (j := 0) rfl ?_
        refine zg_getR dd_62_47 zl_Ways_15 zCs_104 rfl zCr_104_1 ?_
        refine zg_iload_n dd_62_50 rfl (j := 1) rfl ?_
        refine zg_dup2 dd_62_51 rfl rfl ?_
        obtain ⟨g9, h⟩ := z_gd h
        refine zg_iald dd_62_52 zCs_106 g9 ?_
        refine zg_iload_n dd_62_53 rfl (j := 3) rfl ?_
        refine zg_ior dd_62_54 ?_
        obtain ⟨g10, h⟩ := z_gd h
        refine zg_iast dd_62_55 zCs_106 g10 ?_
        obtain rfl := Option.some.inj h
        exact zg_vret dd_62_56 rfl
    · replace h := z_f h q6
      refine zg_aload_n dd_62_19 rfl (j := 0) rfl ?_
      refine zg_getR dd_62_20 zl_Ways_9 zCs_104 rfl zCr_104_0 ?_
      refine zg_iload_n dd_62_23 rfl (j := 1) rfl ?_
      refine zg_iload_n dd_62_24 rfl (j := 2) rfl ?_
      obtain ⟨g11, h⟩ := z_gd h
      refine zg_iast dd_62_25 zCs_105 g11 ?_
      refine zg_aload_n dd_62_26 rfl (j := 0) rfl ?_
      refine zg_getR dd_62_27 zl_Ways_15 zCs_104 rfl zCr_104_1 ?_
      refine zg_iload_n dd_62_30 rfl (j := 1) rfl ?_
      refine zg_iload_n dd_62_31 rfl (j := 3) rfl ?_
      obtain ⟨g12, h⟩ := z_gd h
      refine zg_iast dd_62_32 zCs_106 g12 ?_
      refine zg_goto (tgt := 56) dd_62_33 (by decide) ?_
      obtain rfl := Option.some.inj h
      exact zg_vret dd_62_56 rfl
/-! TurnedLand$Ways.spread[104, None] -/
def fc_Ways_spread_L70 (k152 : Int32 → Int32 → Int32 → zI → Option zI) : Nat → Int32 → Int32 → Int32 → Int32 → Int32 → zI → Option zI
  | 0, _, _, _, _, _, _ => none
  | nf + 1, v1, v2, v3, v4, v5, I =>
    if (4 : Int32) ≤ v5 then
      k152 v1 v2 v3 I
    else
      if v4 = v1 then
        z_guard (zb v4 16) <|
        z_guard (zb v5 4) <|
        if (I (108 + v4.toNatClampNeg) v5.toNatClampNeg) = (-1 : Int32) then
          fc_Ways_spread_L70 k152 nf v1 v2 v3 v4 (v5 + (1 : Int32)) I
        else
          z_guard (zb v4 16) <|
          z_guard (zb v5 4) <|
          z_guard (zb v4 16) <|
          z_guard (zb v4 16) <|
          z_guard (zb v5 4) <|
          (fc_Ways_comeTo I (I (108 + v4.toNatClampNeg) v5.toNatClampNeg) ((I 105 v4.toNatClampNeg) + (I (125 + v4.toNatClampNeg) v5.toNatClampNeg)) ((1 : Int32) <<< (v5 &&& 31))).bind fun r27 =>
          fc_Ways_spread_L70 k152 nf v1 v2 v3 v4 (v5 + (1 : Int32)) r27
      else
        z_guard (zb v4 16) <|
        z_guard (zb v4 16) <|
        z_guard (zb v5 4) <|
        if (I (108 + v4.toNatClampNeg) v5.toNatClampNeg) = (-1 : Int32) then
          fc_Ways_spread_L70 k152 nf v1 v2 v3 v4 (v5 + (1 : Int32)) I
        else
          z_guard (zb v4 16) <|
          z_guard (zb v5 4) <|
          z_guard (zb v4 16) <|
          z_guard (zb v4 16) <|
          z_guard (zb v5 4) <|
          (fc_Ways_comeTo I (I (108 + v4.toNatClampNeg) v5.toNatClampNeg) ((I 105 v4.toNatClampNeg) + (I (125 + v4.toNatClampNeg) v5.toNatClampNeg)) (I 106 v4.toNatClampNeg)).bind fun r17 =>
          fc_Ways_spread_L70 k152 nf v1 v2 v3 v4 (v5 + (1 : Int32)) r17
def fc_Ways_spread_L34 : Nat → Int32 → Int32 → Int32 → zI → Option zI
  | 0, _, _, _, _ => none
  | nf + 1, v1, v2, v3, I =>
    if (I 104 4) ≤ v3 then
      some I
    else
      (fc_Ways_nearest I v2).bind fun r3 =>
      if r3 = (-1 : Int32) then
        some I
      else
        fc_Ways_spread_L70
          (fun (u29 : Int32) (u30 : Int32) (u31 : Int32) (J32 : zI) =>
            fc_Ways_spread_L34 nf u29 u30 (u31 + (1 : Int32)) J32
          )
          100 v1 (v2 &&& (((1 : Int32) <<< (r3 &&& 31)) ^^^ (-1 : Int32))) v3 r3 (0 : Int32) I
def fc_Ways_spread (I : zI) (a1 : Int32) : Option zI :=
  z_guard (zb a1 16) <|
  fc_Ways_spread_L34
    100 a1 (((1 : Int32) <<< (((zup (zfill (zfill I 105 16 (-1 : Int32)) 106 16 (0 : Int32)) 105 a1.toNatClampNeg (0 : Int32)) 104 4) &&& 31)) - (1 : Int32)) (0 : Int32) (zup (zfill (zfill I 105 16 (-1 : Int32)) 106 16 (0 : Int32)) 105 a1.toNatClampNeg (0 : Int32))
set_option maxRecDepth 20000 in
theorem lt_fc_Ways_spread_L70 {res : zI} {k152 : Int32 → Int32 → Int32 → zI → Option zI} (hk152 : ∀ (v1 : Int32) (v2 : Int32) (v3 : Int32) (J : zI), k152 v1 v2 v3 J = some res → zG 2 ym_60 0 0 none (zCs, zCr, res) zCs.length 152 [(0, .inr (.inr (some 104))), (1, .inl v1), (2, .inl v2), (3, .inl v3)] [] (zCs, zCr, J) 0 0) : ∀ (nf : Nat) (v1 : Int32) (v2 : Int32) (v3 : Int32) (v4 : Int32) (v5 : Int32) (I : zI), fc_Ways_spread_L70 k152 nf v1 v2 v3 v4 v5 I = some res → zG 2 ym_60 0 0 none (zCs, zCr, res) zCs.length 70 [(0, .inr (.inr (some 104))), (1, .inl v1), (2, .inl v2), (3, .inl v3), (4, .inl v4), (5, .inl v5)] [] (zCs, zCr, I) 0 0 := by
  intro nf
  induction nf with
  | zero =>
    intro v1 v2 v3 v4 v5 I h
    have h2 : none = some res := h
    cases h2
  | succ nf ih =>
    intro v1 v2 v3 v4 v5 I h
    rw [fc_Ways_spread_L70] at h
    refine zg_iload dd_60_70 (j := 5) rfl ?_
    refine zg_iconst dd_60_72 kI_4 ?_
    refine zg_icmp_ge (tgt := 152) dd_60_73 (by decide) (fun q6 => ?_) (fun q6 => ?_)
    · replace h := z_t h q6
      refine zg_sub [0, 1, 2, 3] rfl ?_
      exact hk152 _ _ _ _ h
    · replace h := z_f h q6
      refine zg_iload dd_60_76 (j := 4) rfl ?_
      refine zg_iload_n dd_60_78 rfl (j := 1) rfl ?_
      refine zg_icmp_ne (tgt := 89) dd_60_79 (by decide) (fun q7 => ?_) (fun q7 => ?_)
      · replace h := z_f h q7
        refine zg_aload_n dd_60_89 rfl (j := 0) rfl ?_
        refine zg_getR dd_60_90 zl_Ways_15 zCs_104 rfl zCr_104_1 ?_
        refine zg_iload dd_60_93 (j := 4) rfl ?_
        obtain ⟨g8, h⟩ := z_gd h
        refine zg_iald dd_60_95 zCs_106 g8 ?_
        refine zg_istore dd_60_96 (Nat.le_of_ble_eq_true rfl) (lv' := [(6, .inl (I 106 v4.toNatClampNeg)), (0, .inr (.inr (some 104))), (1, .inl v1), (2, .inl v2), (3, .inl v3), (4, .inl v4), (5, .inl v5)]) rfl ?_
        refine zg_aload_n dd_60_98 rfl (j := 1) rfl ?_
        refine zg_getR dd_60_99 zl_Ways_20 zCs_104 rfl zCr_104_2 ?_
        refine zg_iload dd_60_102 (j := 5) rfl ?_
        obtain ⟨g9, h⟩ := z_gd h
        refine zg_aald1 dd_60_104 zCs_107 g9 (zrR_C_107 g9) ?_
        refine zg_iload dd_60_105 (j := 6) rfl ?_
        obtain ⟨g10, h⟩ := z_gd h
        refine zg_iald dd_60_107 (zrS_C_107 g9) g10 ?_
        refine zg_iconst dd_60_108 kI_m1 ?_
        refine zg_icmp_eq (tgt := 146) dd_60_109 (by decide) (fun q11 => ?_) (fun q11 => ?_)
        · replace h := z_t h q11
          refine zg_iinc dd_60_146 (j := 6) rfl (v := (v5 + (1 : Int32))) (by rw [kI_1]) (Nat.le_of_ble_eq_true rfl) (lv' := [(5, .inl (v5 + (1 : Int32))), (6, .inl (I 106 v4.toNatClampNeg)), (0, .inr (.inr (some 104))), (1, .inl v1), (2, .inl v2), (3, .inl v3), (4, .inl v4)]) rfl ?_
          refine zg_goto (tgt := 70) dd_60_149 (by decide) ?_
          refine zg_sub [2, 3, 4, 5, 6, 0] rfl ?_
          exact ih _ _ _ _ _ _ h
        · replace h := z_f h q11
          refine zg_aload_n dd_60_112 rfl (j := 1) rfl ?_
          refine zg_aload_n dd_60_113 rfl (j := 1) rfl ?_
          refine zg_getR dd_60_114 zl_Ways_20 zCs_104 rfl zCr_104_2 ?_
          refine zg_iload dd_60_117 (j := 5) rfl ?_
          obtain ⟨g12, h⟩ := z_gd h
          refine zg_aald1 dd_60_119 zCs_107 g12 (zrR_C_107 g12) ?_
          refine zg_iload dd_60_120 (j := 6) rfl ?_
          obtain ⟨g13, h⟩ := z_gd h
          refine zg_iald dd_60_122 (zrS_C_107 g12) g13 ?_
          refine zg_aload_n dd_60_123 rfl (j := 1) rfl ?_
          refine zg_getR dd_60_124 zl_Ways_9 zCs_104 rfl zCr_104_0 ?_
          refine zg_iload dd_60_127 (j := 5) rfl ?_
          obtain ⟨g14, h⟩ := z_gd h
          refine zg_iald dd_60_129 zCs_105 g14 ?_
          refine zg_aload_n dd_60_130 rfl (j := 1) rfl ?_
          refine zg_getR dd_60_131 zl_Ways_23 zCs_104 rfl zCr_104_3 ?_
          refine zg_iload dd_60_134 (j := 5) rfl ?_
          obtain ⟨g15, h⟩ := z_gd h
          refine zg_aald1 dd_60_136 zCs_124 g15 (zrR_C_124 g15) ?_
          refine zg_iload dd_60_137 (j := 6) rfl ?_
          obtain ⟨g16, h⟩ := z_gd h
          refine zg_iald dd_60_139 (zrS_C_124 g15) g16 ?_
          refine zg_iadd dd_60_140 ?_
          refine zg_iload dd_60_141 (j := 0) rfl ?_
          obtain ⟨r17, e18, h⟩ := z_bd h
          refine zg_invV_v (av := [.inl (I (108 + v4.toNatClampNeg) v5.toNatClampNeg), .inl ((I 105 v4.toNatClampNeg) + (I (125 + v4.toNatClampNeg) v5.toNatClampNeg)), .inl (I 106 v4.toNatClampNeg)]) (st := []) (n := 3) dd_60_143 ca_62 zw_682 zw_684 zv_19 zCs_104 zcl_9 rfl (mt_fc_Ways_comeTo e18) rfl ⟨by decide +kernel, by decide⟩ (Nat.le_of_ble_eq_true rfl) ?_
          refine zg_iinc dd_60_146 (j := 6) rfl (v := (v5 + (1 : Int32))) (by rw [kI_1]) (Nat.le_of_ble_eq_true rfl) (lv' := [(5, .inl (v5 + (1 : Int32))), (6, .inl (I 106 v4.toNatClampNeg)), (0, .inr (.inr (some 104))), (1, .inl v1), (2, .inl v2), (3, .inl v3), (4, .inl v4)]) rfl ?_
          refine zg_goto (tgt := 70) dd_60_149 (by decide) ?_
          refine zg_sub [2, 3, 4, 5, 6, 0] rfl ?_
          exact ih _ _ _ _ _ _ h
      · replace h := z_t h q7
        refine zg_iconst dd_60_82 kI_1 ?_
        refine zg_iload dd_60_83 (j := 5) rfl ?_
        refine zg_ishl dd_60_85 ?_
        refine zg_goto (tgt := 96) dd_60_86 (by decide) ?_
        refine zg_istore dd_60_96 (Nat.le_of_ble_eq_true rfl) (lv' := [(6, .inl ((1 : Int32) <<< (v5 &&& 31))), (0, .inr (.inr (some 104))), (1, .inl v1), (2, .inl v2), (3, .inl v3), (4, .inl v4), (5, .inl v5)]) rfl ?_
        refine zg_aload_n dd_60_98 rfl (j := 1) rfl ?_
        refine zg_getR dd_60_99 zl_Ways_20 zCs_104 rfl zCr_104_2 ?_
        refine zg_iload dd_60_102 (j := 5) rfl ?_
        obtain ⟨g19, h⟩ := z_gd h
        refine zg_aald1 dd_60_104 zCs_107 g19 (zrR_C_107 g19) ?_
        refine zg_iload dd_60_105 (j := 6) rfl ?_
        obtain ⟨g20, h⟩ := z_gd h
        refine zg_iald dd_60_107 (zrS_C_107 g19) g20 ?_
        refine zg_iconst dd_60_108 kI_m1 ?_
        refine zg_icmp_eq (tgt := 146) dd_60_109 (by decide) (fun q21 => ?_) (fun q21 => ?_)
        · replace h := z_t h q21
          refine zg_iinc dd_60_146 (j := 6) rfl (v := (v5 + (1 : Int32))) (by rw [kI_1]) (Nat.le_of_ble_eq_true rfl) (lv' := [(5, .inl (v5 + (1 : Int32))), (6, .inl ((1 : Int32) <<< (v5 &&& 31))), (0, .inr (.inr (some 104))), (1, .inl v1), (2, .inl v2), (3, .inl v3), (4, .inl v4)]) rfl ?_
          refine zg_goto (tgt := 70) dd_60_149 (by decide) ?_
          refine zg_sub [2, 3, 4, 5, 6, 0] rfl ?_
          exact ih _ _ _ _ _ _ h
        · replace h := z_f h q21
          refine zg_aload_n dd_60_112 rfl (j := 1) rfl ?_
          refine zg_aload_n dd_60_113 rfl (j := 1) rfl ?_
          refine zg_getR dd_60_114 zl_Ways_20 zCs_104 rfl zCr_104_2 ?_
          refine zg_iload dd_60_117 (j := 5) rfl ?_
          obtain ⟨g22, h⟩ := z_gd h
          refine zg_aald1 dd_60_119 zCs_107 g22 (zrR_C_107 g22) ?_
          refine zg_iload dd_60_120 (j := 6) rfl ?_
          obtain ⟨g23, h⟩ := z_gd h
          refine zg_iald dd_60_122 (zrS_C_107 g22) g23 ?_
          refine zg_aload_n dd_60_123 rfl (j := 1) rfl ?_
          refine zg_getR dd_60_124 zl_Ways_9 zCs_104 rfl zCr_104_0 ?_
          refine zg_iload dd_60_127 (j := 5) rfl ?_
          obtain ⟨g24, h⟩ := z_gd h
          refine zg_iald dd_60_129 zCs_105 g24 ?_
          refine zg_aload_n dd_60_130 rfl (j := 1) rfl ?_
          refine zg_getR dd_60_131 zl_Ways_23 zCs_104 rfl zCr_104_3 ?_
          refine zg_iload dd_60_134 (j := 5) rfl ?_
          obtain ⟨g25, h⟩ := z_gd h
          refine zg_aald1 dd_60_136 zCs_124 g25 (zrR_C_124 g25) ?_
          refine zg_iload dd_60_137 (j := 6) rfl ?_
          obtain ⟨g26, h⟩ := z_gd h
          refine zg_iald dd_60_139 (zrS_C_124 g25) g26 ?_
          refine zg_iadd dd_60_140 ?_
          refine zg_iload dd_60_141 (j := 0) rfl ?_
          obtain ⟨r27, e28, h⟩ := z_bd h
          refine zg_invV_v (av := [.inl (I (108 + v4.toNatClampNeg) v5.toNatClampNeg), .inl ((I 105 v4.toNatClampNeg) + (I (125 + v4.toNatClampNeg) v5.toNatClampNeg)), .inl ((1 : Int32) <<< (v5 &&& 31))]) (st := []) (n := 3) dd_60_143 ca_62 zw_682 zw_684 zv_19 zCs_104 zcl_9 rfl (mt_fc_Ways_comeTo e28) rfl ⟨by decide +kernel, by decide⟩ (Nat.le_of_ble_eq_true rfl) ?_
          refine zg_iinc dd_60_146 (j := 6) rfl (v := (v5 + (1 : Int32))) (by rw [kI_1]) (Nat.le_of_ble_eq_true rfl) (lv' := [(5, .inl (v5 + (1 : Int32))), (6, .inl ((1 : Int32) <<< (v5 &&& 31))), (0, .inr (.inr (some 104))), (1, .inl v1), (2, .inl v2), (3, .inl v3), (4, .inl v4)]) rfl ?_
          refine zg_goto (tgt := 70) dd_60_149 (by decide) ?_
          refine zg_sub [2, 3, 4, 5, 6, 0] rfl ?_
          exact ih _ _ _ _ _ _ h
set_option maxRecDepth 20000 in
theorem lt_fc_Ways_spread_L34 {res : zI} : ∀ (nf : Nat) (v1 : Int32) (v2 : Int32) (v3 : Int32) (I : zI), fc_Ways_spread_L34 nf v1 v2 v3 I = some res → zG 2 ym_60 0 0 none (zCs, zCr, res) zCs.length 34 [(0, .inr (.inr (some 104))), (1, .inl v1), (2, .inl v2), (3, .inl v3)] [] (zCs, zCr, I) 0 0 := by
  intro nf
  induction nf with
  | zero =>
    intro v1 v2 v3 I h
    have h2 : none = some res := h
    cases h2
  | succ nf ih =>
    intro v1 v2 v3 I h
    rw [fc_Ways_spread_L34] at h
    refine zg_iload_n dd_60_34 rfl (j := 3) rfl ?_
    refine zg_aload_n dd_60_35 rfl (j := 0) rfl ?_
    refine zg_getI dd_60_36 zl_Ways_26 zCs_104 rfl ?_
    refine zg_icmp_ge (tgt := 158) dd_60_39 (by decide) (fun q2 => ?_) (fun q2 => ?_)
    · replace h := z_t h q2
      obtain rfl := Option.some.inj h
      exact zg_vret dd_60_158 rfl
    · replace h := z_f h q2
      refine zg_aload_n dd_60_42 rfl (j := 0) rfl ?_
      refine zg_iload_n dd_60_43 rfl (j := 2) rfl ?_
      obtain ⟨r3, e4, h⟩ := z_bd h
      refine zg_invV_i (av := [.inl v2]) (st := []) (n := 1) dd_60_44 ca_61 zw_678 zw_680 zv_18 zCs_104 zcl_9 rfl (mt_fc_Ways_nearest e4) rfl ⟨by decide +kernel, by decide⟩ (Nat.le_of_ble_eq_true rfl) ?_
      refine zg_istore dd_60_47 (Nat.le_of_ble_eq_true rfl) (lv' := [(4, .inl r3), (0, .inr (.inr (some 104))), (1, .inl v1), (2, .inl v2), (3, .inl v3)]) rfl ?_
      refine zg_iload dd_60_49 (j := 0) rfl ?_
      refine zg_iconst dd_60_51 kI_m1 ?_
      refine zg_icmp_ne (tgt := 58) dd_60_52 (by decide) (fun q5 => ?_) (fun q5 => ?_)
      · replace h := z_f h q5
        refine zg_iload_n dd_60_58 rfl (j := 3) rfl ?_
        refine zg_iconst dd_60_59 kI_1 ?_
        refine zg_iload dd_60_60 (j := 0) rfl ?_
        refine zg_ishl dd_60_62 ?_
        refine zg_iconst dd_60_63 kI_m1 ?_
        refine zg_ixor dd_60_64 ?_
        refine zg_iand dd_60_65 ?_
        refine zg_istore_n dd_60_66 rfl (Nat.le_of_ble_eq_true rfl) (lv' := [(2, .inl (v2 &&& (((1 : Int32) <<< (r3 &&& 31)) ^^^ (-1 : Int32)))), (4, .inl r3), (0, .inr (.inr (some 104))), (1, .inl v1), (3, .inl v3)]) rfl ?_
        refine zg_iconst dd_60_67 kI_0 ?_
        refine zg_istore dd_60_68 (Nat.le_of_ble_eq_true rfl) (lv' := [(5, .inl (0 : Int32)), (2, .inl (v2 &&& (((1 : Int32) <<< (r3 &&& 31)) ^^^ (-1 : Int32)))), (4, .inl r3), (0, .inr (.inr (some 104))), (1, .inl v1), (3, .inl v3)]) rfl ?_
        refine zg_sub [3, 4, 1, 5, 2, 0] rfl ?_
        refine lt_fc_Ways_spread_L70 ?_ _ _ _ _ _ _ _ h
        · intro u29 u30 u31 J32 h
          beta_reduce at h
          refine zg_iinc dd_60_152 (j := 3) rfl (v := (u31 + (1 : Int32))) (by rw [kI_1]) (Nat.le_of_ble_eq_true rfl) (lv' := [(3, .inl (u31 + (1 : Int32))), (0, .inr (.inr (some 104))), (1, .inl u29), (2, .inl u30)]) rfl ?_
          refine zg_goto (tgt := 34) dd_60_155 (by decide) ?_
          refine zg_sub [1, 2, 3, 0] rfl ?_
          exact ih _ _ _ _ h
      · replace h := z_t h q5
        refine zg_goto (tgt := 158) dd_60_55 (by decide) ?_
        obtain rfl := Option.some.inj h
        exact zg_vret dd_60_158 rfl
set_option maxRecDepth 20000 in
theorem mt_fc_Ways_spread {I : zI} {a1 : Int32} {res : zI} (h : fc_Ways_spread I a1 = some res) : zM 2 ym_60 [.inr (.inr (some 104)), .inl a1] (zCs, zCr, I) none (zCs, zCr, res) 0 0 := by
  refine zM_of (by decide) (Nat.le_of_ble_eq_true rfl) (lv := [(0, .inr (.inr (some 104))), (1, .inl a1)]) rfl ?_
  rw [fc_Ways_spread] at h
  refine zg_aload_n dd_60_0 rfl (j := 0) rfl ?_
  refine zg_getR dd_60_1 zl_Ways_9 zCs_104 rfl zCr_104_0 ?_
  refine zg_iconst dd_60_4 kI_m1 ?_
  refine zg_invS_v (av := [.inr (.inr (some 105)), .inl (-1 : Int32)]) (st := []) (n := 2) dd_60_5 ca_28 zw_677 zw_43 (mt_fill zCs_105 (Nat.le_of_ble_eq_true rfl)) rfl ⟨by decide +kernel, by decide⟩ (Nat.le_of_ble_eq_true rfl) ?_
  refine zg_aload_n dd_60_8 rfl (j := 0) rfl ?_
  refine zg_getR dd_60_9 zl_Ways_15 zCs_104 rfl zCr_104_1 ?_
  refine zg_iconst dd_60_12 kI_0 ?_
  refine zg_invS_v (av := [.inr (.inr (some 106)), .inl (0 : Int32)]) (st := []) (n := 2) dd_60_13 ca_28 zw_677 zw_43 (mt_fill zCs_106 (Nat.le_of_ble_eq_true rfl)) rfl ⟨by decide +kernel, by decide⟩ (Nat.le_of_ble_eq_true rfl) ?_
  refine zg_aload_n dd_60_16 rfl (j := 0) rfl ?_
  refine zg_getR dd_60_17 zl_Ways_9 zCs_104 rfl zCr_104_0 ?_
  refine zg_iload_n dd_60_20 rfl (j := 1) rfl ?_
  refine zg_iconst dd_60_21 kI_0 ?_
  obtain ⟨g1, h⟩ := z_gd h
  refine zg_iast dd_60_22 zCs_105 g1 ?_
  refine zg_iconst dd_60_23 kI_1 ?_
  refine zg_aload_n dd_60_24 rfl (j := 0) rfl ?_
  refine zg_getI dd_60_25 zl_Ways_26 zCs_104 rfl ?_
  refine zg_ishl dd_60_28 ?_
  refine zg_iconst dd_60_29 kI_1 ?_
  refine zg_isub dd_60_30 ?_
  refine zg_istore_n dd_60_31 rfl (Nat.le_of_ble_eq_true rfl) (lv' := [(2, .inl (((1 : Int32) <<< (((zup (zfill (zfill I 105 16 (-1 : Int32)) 106 16 (0 : Int32)) 105 a1.toNatClampNeg (0 : Int32)) 104 4) &&& 31)) - (1 : Int32))), (0, .inr (.inr (some 104))), (1, .inl a1)]) rfl ?_
  refine zg_iconst dd_60_32 kI_0 ?_
  refine zg_istore_n dd_60_33 rfl (Nat.le_of_ble_eq_true rfl) (lv' := [(3, .inl (0 : Int32)), (2, .inl (((1 : Int32) <<< (((zup (zfill (zfill I 105 16 (-1 : Int32)) 106 16 (0 : Int32)) 105 a1.toNatClampNeg (0 : Int32)) 104 4) &&& 31)) - (1 : Int32))), (0, .inr (.inr (some 104))), (1, .inl a1)]) rfl ?_
  refine zg_sub [2, 3, 1, 0] rfl ?_
  refine lt_fc_Ways_spread_L34  _ _ _ _ _ h
/-! TurnedLand.soonest(0, None, None) -/
def fc_T_soonest (I : zI) (a1 : Int32) (a2 : Int32) : Option (Int32 × zI) :=
  (fc_Ground_hasPlace I a1).bind fun r1 =>
  if r1 = 0 then
    (fc_T_refuse I (1 : Int32)).bind fun r4 =>
    some (r4.1, r4.2)
  else
    (fc_Ground_hasPlace I a2).bind fun r6 =>
    if r6 = 0 then
      (fc_T_refuse I (1 : Int32)).bind fun r18 =>
      some (r18.1, r18.2)
    else
      (fc_Ways_survey I).bind fun r9 =>
      (fc_Ways_spread r9 a1).bind fun r11 =>
      z_guard (zb a2 16) <|
      if 0 ≤ (r11 105 a2.toNatClampNeg) then
        z_guard (zb a2 16) <|
        some ((r11 105 a2.toNatClampNeg), r11)
      else
        (fc_T_refuse r11 (2 : Int32)).bind fun r16 =>
        some (r16.1, r16.2)
set_option maxRecDepth 20000 in
theorem mt_fc_T_soonest {I : zI} {a1 : Int32} {a2 : Int32} {res : (Int32 × zI)} (h : fc_T_soonest I a1 a2 = some res) : zM 6 ym_48 [.inr (.inr (some 0)), .inl a1, .inl a2] (zCs, zCr, I) (some (.inl res.1)) (zCs, zCr, res.2) 0 0 := by
  refine zM_of (by decide) (Nat.le_of_ble_eq_true rfl) (lv := [(0, .inr (.inr (some 0))), (1, .inl a1), (2, .inl a2)]) rfl ?_
  rw [fc_T_soonest] at h
  refine zg_aload_n dd_48_0 rfl (j := 0) rfl ?_
  refine zg_getR dd_48_1 zl_T_12 zCs_0 rfl zCr_0_0 ?_
  refine zg_getR dd_48_4 zl_T_76 zCs_1 rfl zCr_1_0 ?_
  refine zg_iload_n dd_48_7 rfl (j := 1) rfl ?_
  obtain ⟨r1, e2, h⟩ := z_bd h
  refine zg_invV_i (av := [.inl a1]) (st := []) (n := 1) dd_48_8 ca_49 zw_631 zw_632 zw_633 zCs_2 zcl_2 rfl (mt_fc_Ground_hasPlace e2) rfl ⟨by decide +kernel, by decide⟩ (Nat.le_of_ble_eq_true rfl) ?_
  refine zg_if_eq (tgt := 28) dd_48_11 (by decide) (fun q3 => ?_) (fun q3 => ?_)
  · replace h := z_t h q3
    refine zg_aload_n dd_48_28 rfl (j := 0) rfl ?_
    refine zg_iconst dd_48_29 kI_1 ?_
    obtain ⟨r4, e5, h⟩ := z_bd h
    refine zg_invV_i (av := [.inl (1 : Int32)]) (st := []) (n := 1) dd_48_30 ca_2 zw_430 zw_432 zv_0 zCs_0 zcl_11 rfl (mt_fc_T_refuse e5) rfl ⟨by decide +kernel, by decide⟩ (Nat.le_of_ble_eq_true rfl) ?_
    obtain rfl := Option.some.inj h
    exact zg_iret dd_48_33 rfl
  · replace h := z_f h q3
    refine zg_aload_n dd_48_14 rfl (j := 0) rfl ?_
    refine zg_getR dd_48_15 zl_T_12 zCs_0 rfl zCr_0_0 ?_
    refine zg_getR dd_48_18 zl_T_76 zCs_1 rfl zCr_1_0 ?_
    refine zg_iload_n dd_48_21 rfl (j := 2) rfl ?_
    obtain ⟨r6, e7, h⟩ := z_bd h
    refine zg_invV_i (av := [.inl a2]) (st := []) (n := 1) dd_48_22 ca_49 zw_631 zw_632 zw_633 zCs_2 zcl_2 rfl (mt_fc_Ground_hasPlace e7) rfl ⟨by decide +kernel, by decide⟩ (Nat.le_of_ble_eq_true rfl) ?_
    refine zg_if_ne (tgt := 34) dd_48_25 (by decide) (fun q8 => ?_) (fun q8 => ?_)
    · replace h := z_f h q8
      refine zg_aload_n dd_48_34 rfl (j := 0) rfl ?_
      refine zg_getR dd_48_35 zl_T_48 zCs_0 rfl zCr_0_8 ?_
      refine zg_aload_n dd_48_38 rfl (j := 0) rfl ?_
      refine zg_getR dd_48_39 zl_T_12 zCs_0 rfl zCr_0_0 ?_
      obtain ⟨r9, e10, h⟩ := z_bd h
      refine zg_invV_v (av := [.inr (.inr (some 1))]) (st := []) (n := 1) dd_48_42 ca_50 zw_635 zw_636 zw_637 zCs_104 zcl_9 rfl (mt_fc_Ways_survey e10) rfl ⟨by decide +kernel, by decide⟩ (Nat.le_of_ble_eq_true rfl) ?_
      refine zg_aload_n dd_48_45 rfl (j := 0) rfl ?_
      refine zg_getR dd_48_46 zl_T_48 zCs_0 rfl zCr_0_8 ?_
      refine zg_iload_n dd_48_49 rfl (j := 1) rfl ?_
      obtain ⟨r11, e12, h⟩ := z_bd h
      refine zg_invV_v (av := [.inl a1]) (st := []) (n := 1) dd_48_50 ca_60 zw_673 zw_674 zw_675 zCs_104 zcl_9 rfl (mt_fc_Ways_spread e12) rfl ⟨by decide +kernel, by decide⟩ (Nat.le_of_ble_eq_true rfl) ?_
      refine zg_aload_n dd_48_53 rfl (j := 0) rfl ?_
      refine zg_getR dd_48_54 zl_T_48 zCs_0 rfl zCr_0_8 ?_
      refine zg_getR dd_48_57 zl_T_193 zCs_104 rfl zCr_104_0 ?_
      refine zg_iload_n dd_48_60 rfl (j := 2) rfl ?_
      obtain ⟨g13, h⟩ := z_gd h
      refine zg_iald dd_48_61 zCs_105 g13 ?_
      refine zg_if_ge (tgt := 73) dd_48_62 (by decide) (fun q14 => ?_) (fun q14 => ?_)
      · replace h := z_t h q14
        refine zg_aload_n dd_48_73 rfl (j := 0) rfl ?_
        refine zg_getR dd_48_74 zl_T_48 zCs_0 rfl zCr_0_8 ?_
        refine zg_getR dd_48_77 zl_T_193 zCs_104 rfl zCr_104_0 ?_
        refine zg_iload_n dd_48_80 rfl (j := 2) rfl ?_
        obtain ⟨g15, h⟩ := z_gd h
        refine zg_iald dd_48_81 zCs_105 g15 ?_
        obtain rfl := Option.some.inj h
        exact zg_iret dd_48_82 rfl
      · replace h := z_f h q14
        refine zg_aload_n dd_48_65 rfl (j := 0) rfl ?_
        refine zg_iconst dd_48_66 kI_2 ?_
        obtain ⟨r16, e17, h⟩ := z_bd h
        refine zg_invV_i (av := [.inl (2 : Int32)]) (st := []) (n := 1) dd_48_67 ca_2 zw_430 zw_432 zv_0 zCs_0 zcl_11 rfl (mt_fc_T_refuse e17) rfl ⟨by decide +kernel, by decide⟩ (Nat.le_of_ble_eq_true rfl) ?_
        refine zg_goto (tgt := 82) dd_48_70 (by decide) ?_
        obtain rfl := Option.some.inj h
        exact zg_iret dd_48_82 rfl
    · replace h := z_t h q8
      refine zg_aload_n dd_48_28 rfl (j := 0) rfl ?_
      refine zg_iconst dd_48_29 kI_1 ?_
      obtain ⟨r18, e19, h⟩ := z_bd h
      refine zg_invV_i (av := [.inl (1 : Int32)]) (st := []) (n := 1) dd_48_30 ca_2 zw_430 zw_432 zv_0 zCs_0 zcl_11 rfl (mt_fc_T_refuse e19) rfl ⟨by decide +kernel, by decide⟩ (Nat.le_of_ble_eq_true rfl) ?_
      obtain rfl := Option.some.inj h
      exact zg_iret dd_48_33 rfl
/-! TurnedLand.reached(0, None) -/
def fc_T_reached_L43 : Nat → Int32 → Int32 → zI → Option (Int32 × zI)
  | 0, _, _, _ => none
  | nf + 1, v2, v3, I =>
    if (16 : Int32) ≤ v3 then
      some (v2, I)
    else
      z_guard (zb v3 16) <|
      if (I 105 v3.toNatClampNeg) < 0 then
        fc_T_reached_L43 nf v2 (v3 + (1 : Int32)) I
      else
        fc_T_reached_L43 nf (v2 ||| ((1 : Int32) <<< (v3 &&& 31))) (v3 + (1 : Int32)) I
def fc_T_reached (I : zI) (a1 : Int32) : Option (Int32 × zI) :=
  (fc_Ground_hasPlace I a1).bind fun r1 =>
  if r1 = 0 then
    (fc_T_refuse I (1 : Int32)).bind fun r11 =>
    some (r11.1, r11.2)
  else
    (fc_Ways_survey I).bind fun r4 =>
    (fc_Ways_spread r4 a1).bind fun r6 =>
    fc_T_reached_L43
      100 (0 : Int32) (0 : Int32) r6
set_option maxRecDepth 20000 in
theorem lt_fc_T_reached_L43 {res : (Int32 × zI)} : ∀ (nf : Nat) (v2 : Int32) (v3 : Int32) (I : zI), fc_T_reached_L43 nf v2 v3 I = some res → zG 6 ym_63 0 0 (some (.inl res.1)) (zCs, zCr, res.2) zCs.length 43 [(0, .inr (.inr (some 0))), (2, .inl v2), (3, .inl v3)] [] (zCs, zCr, I) 0 0 := by
  intro nf
  induction nf with
  | zero =>
    intro v2 v3 I h
    have h2 : none = some res := h
    cases h2
  | succ nf ih =>
    intro v2 v3 I h
    rw [fc_T_reached_L43] at h
    refine zg_iload_n dd_63_43 rfl (j := 2) rfl ?_
    refine zg_bipush dd_63_44 kB_16 ?_
    refine zg_icmp_ge (tgt := 73) dd_63_46 (by decide) (fun q8 => ?_) (fun q8 => ?_)
    · replace h := z_t h q8
      refine zg_iload_n dd_63_73 rfl (j := 1) rfl ?_
      obtain rfl := Option.some.inj h
      exact zg_iret dd_63_74 rfl
    · replace h := z_f h q8
      refine zg_aload_n dd_63_49 rfl (j := 0) rfl ?_
      refine zg_getR dd_63_50 zl_T_48 zCs_0 rfl zCr_0_8 ?_
      refine zg_getR dd_63_53 zl_T_193 zCs_104 rfl zCr_104_0 ?_
      refine zg_iload_n dd_63_56 rfl (j := 2) rfl ?_
      obtain ⟨g9, h⟩ := z_gd h
      refine zg_iald dd_63_57 zCs_105 g9 ?_
      refine zg_if_lt (tgt := 67) dd_63_58 (by decide) (fun q10 => ?_) (fun q10 => ?_)
      · replace h := z_t h q10
        refine zg_iinc dd_63_67 (j := 2) rfl (v := (v3 + (1 : Int32))) (by rw [kI_1]) (Nat.le_of_ble_eq_true rfl) (lv' := [(3, .inl (v3 + (1 : Int32))), (0, .inr (.inr (some 0))), (2, .inl v2)]) rfl ?_
        refine zg_goto (tgt := 43) dd_63_70 (by decide) ?_
        refine zg_sub [1, 2, 0] rfl ?_
        exact ih _ _ _ h
      · replace h := z_f h q10
        refine zg_iload_n dd_63_61 rfl (j := 1) rfl ?_
        refine zg_iconst dd_63_62 kI_1 ?_
        refine zg_iload_n dd_63_63 rfl (j := 2) rfl ?_
        refine zg_ishl dd_63_64 ?_
        refine zg_ior dd_63_65 ?_
        refine zg_istore_n dd_63_66 rfl (Nat.le_of_ble_eq_true rfl) (lv' := [(2, .inl (v2 ||| ((1 : Int32) <<< (v3 &&& 31)))), (0, .inr (.inr (some 0))), (3, .inl v3)]) rfl ?_
        refine zg_iinc dd_63_67 (j := 2) rfl (v := (v3 + (1 : Int32))) (by rw [kI_1]) (Nat.le_of_ble_eq_true rfl) (lv' := [(3, .inl (v3 + (1 : Int32))), (2, .inl (v2 ||| ((1 : Int32) <<< (v3 &&& 31)))), (0, .inr (.inr (some 0)))]) rfl ?_
        refine zg_goto (tgt := 43) dd_63_70 (by decide) ?_
        refine zg_sub [2, 1, 0] rfl ?_
        exact ih _ _ _ h
set_option maxRecDepth 20000 in
theorem mt_fc_T_reached {I : zI} {a1 : Int32} {res : (Int32 × zI)} (h : fc_T_reached I a1 = some res) : zM 6 ym_63 [.inr (.inr (some 0)), .inl a1] (zCs, zCr, I) (some (.inl res.1)) (zCs, zCr, res.2) 0 0 := by
  refine zM_of (by decide) (Nat.le_of_ble_eq_true rfl) (lv := [(0, .inr (.inr (some 0))), (1, .inl a1)]) rfl ?_
  rw [fc_T_reached] at h
  refine zg_aload_n dd_63_0 rfl (j := 0) rfl ?_
  refine zg_getR dd_63_1 zl_T_12 zCs_0 rfl zCr_0_0 ?_
  refine zg_getR dd_63_4 zl_T_76 zCs_1 rfl zCr_1_0 ?_
  refine zg_iload_n dd_63_7 rfl (j := 1) rfl ?_
  obtain ⟨r1, e2, h⟩ := z_bd h
  refine zg_invV_i (av := [.inl a1]) (st := []) (n := 1) dd_63_8 ca_49 zw_631 zw_632 zw_633 zCs_2 zcl_2 rfl (mt_fc_Ground_hasPlace e2) rfl ⟨by decide +kernel, by decide⟩ (Nat.le_of_ble_eq_true rfl) ?_
  refine zg_if_ne (tgt := 20) dd_63_11 (by decide) (fun q3 => ?_) (fun q3 => ?_)
  · replace h := z_f h q3
    refine zg_aload_n dd_63_20 rfl (j := 0) rfl ?_
    refine zg_getR dd_63_21 zl_T_48 zCs_0 rfl zCr_0_8 ?_
    refine zg_aload_n dd_63_24 rfl (j := 0) rfl ?_
    refine zg_getR dd_63_25 zl_T_12 zCs_0 rfl zCr_0_0 ?_
    obtain ⟨r4, e5, h⟩ := z_bd h
    refine zg_invV_v (av := [.inr (.inr (some 1))]) (st := []) (n := 1) dd_63_28 ca_50 zw_635 zw_636 zw_637 zCs_104 zcl_9 rfl (mt_fc_Ways_survey e5) rfl ⟨by decide +kernel, by decide⟩ (Nat.le_of_ble_eq_true rfl) ?_
    refine zg_aload_n dd_63_31 rfl (j := 0) rfl ?_
    refine zg_getR dd_63_32 zl_T_48 zCs_0 rfl zCr_0_8 ?_
    refine zg_iload_n dd_63_35 rfl (j := 1) rfl ?_
    obtain ⟨r6, e7, h⟩ := z_bd h
    refine zg_invV_v (av := [.inl a1]) (st := []) (n := 1) dd_63_36 ca_60 zw_673 zw_674 zw_675 zCs_104 zcl_9 rfl (mt_fc_Ways_spread e7) rfl ⟨by decide +kernel, by decide⟩ (Nat.le_of_ble_eq_true rfl) ?_
    refine zg_iconst dd_63_39 kI_0 ?_
    refine zg_istore_n dd_63_40 rfl (Nat.le_of_ble_eq_true rfl) (lv' := [(2, .inl (0 : Int32)), (0, .inr (.inr (some 0))), (1, .inl a1)]) rfl ?_
    refine zg_iconst dd_63_41 kI_0 ?_
    refine zg_istore_n dd_63_42 rfl (Nat.le_of_ble_eq_true rfl) (lv' := [(3, .inl (0 : Int32)), (2, .inl (0 : Int32)), (0, .inr (.inr (some 0))), (1, .inl a1)]) rfl ?_
    refine zg_sub [2, 1, 0] rfl ?_
    refine lt_fc_T_reached_L43  _ _ _ _ h
  · replace h := z_t h q3
    refine zg_aload_n dd_63_14 rfl (j := 0) rfl ?_
    refine zg_iconst dd_63_15 kI_1 ?_
    obtain ⟨r11, e12, h⟩ := z_bd h
    refine zg_invV_i (av := [.inl (1 : Int32)]) (st := []) (n := 1) dd_63_16 ca_2 zw_430 zw_432 zv_0 zCs_0 zcl_11 rfl (mt_fc_T_refuse e12) rfl ⟨by decide +kernel, by decide⟩ (Nat.le_of_ble_eq_true rfl) ?_
    obtain rfl := Option.some.inj h
    exact zg_iret dd_63_19 rfl
/-! TurnedLand.first(0, None, None) -/
def fc_T_first_L55 : Nat → Int32 → Int32 → zI → Option (Int32 × zI)
  | 0, _, _, _ => none
  | nf + 1, v2, v3, I =>
    if (4 : Int32) ≤ v3 then
      (fc_T_refuse I (2 : Int32)).bind fun r14 =>
      some (r14.1, r14.2)
    else
      z_guard (zb v2 16) <|
      if (((I 106 v2.toNatClampNeg) >>> (v3 &&& 31)) &&& (1 : Int32)) = (1 : Int32) then
        some (v3, I)
      else
        fc_T_first_L55 nf v2 (v3 + (1 : Int32)) I
def fc_T_first (I : zI) (a1 : Int32) (a2 : Int32) : Option (Int32 × zI) :=
  (fc_Ground_hasPlace I a1).bind fun r1 =>
  if r1 = 0 then
    (fc_T_refuse I (1 : Int32)).bind fun r4 =>
    some (r4.1, r4.2)
  else
    (fc_Ground_hasPlace I a2).bind fun r6 =>
    if r6 = 0 then
      (fc_T_refuse I (1 : Int32)).bind fun r18 =>
      some (r18.1, r18.2)
    else
      (fc_Ways_survey I).bind fun r9 =>
      (fc_Ways_spread r9 a1).bind fun r11 =>
      fc_T_first_L55
        100 a2 (0 : Int32) r11
set_option maxRecDepth 20000 in
theorem lt_fc_T_first_L55 {res : (Int32 × zI)} : ∀ (nf : Nat) (v2 : Int32) (v3 : Int32) (I : zI), fc_T_first_L55 nf v2 v3 I = some res → zG 6 ym_64 0 0 (some (.inl res.1)) (zCs, zCr, res.2) zCs.length 55 [(0, .inr (.inr (some 0))), (2, .inl v2), (3, .inl v3)] [] (zCs, zCr, I) 0 0 := by
  intro nf
  induction nf with
  | zero =>
    intro v2 v3 I h
    have h2 : none = some res := h
    cases h2
  | succ nf ih =>
    intro v2 v3 I h
    rw [fc_T_first_L55] at h
    refine zg_iload_n dd_64_55 rfl (j := 2) rfl ?_
    refine zg_iconst dd_64_56 kI_4 ?_
    refine zg_icmp_ge (tgt := 85) dd_64_57 (by decide) (fun q13 => ?_) (fun q13 => ?_)
    · replace h := z_t h q13
      refine zg_aload_n dd_64_85 rfl (j := 0) rfl ?_
      refine zg_iconst dd_64_86 kI_2 ?_
      obtain ⟨r14, e15, h⟩ := z_bd h
      refine zg_invV_i (av := [.inl (2 : Int32)]) (st := []) (n := 1) dd_64_87 ca_2 zw_430 zw_432 zv_0 zCs_0 zcl_11 rfl (mt_fc_T_refuse e15) rfl ⟨by decide +kernel, by decide⟩ (Nat.le_of_ble_eq_true rfl) ?_
      obtain rfl := Option.some.inj h
      exact zg_iret dd_64_90 rfl
    · replace h := z_f h q13
      refine zg_aload_n dd_64_60 rfl (j := 0) rfl ?_
      refine zg_getR dd_64_61 zl_T_48 zCs_0 rfl zCr_0_8 ?_
      refine zg_getR dd_64_64 zl_T_196 zCs_104 rfl zCr_104_1 ?_
      refine zg_iload_n dd_64_67 rfl (j := 1) rfl ?_
      obtain ⟨g16, h⟩ := z_gd h
      refine zg_iald dd_64_68 zCs_106 g16 ?_
      refine zg_iload_n dd_64_69 rfl (j := 2) rfl ?_
      refine zg_ishr dd_64_70 ?_
      refine zg_iconst dd_64_71 kI_1 ?_
      refine zg_iand dd_64_72 ?_
      refine zg_iconst dd_64_73 kI_1 ?_
      refine zg_icmp_ne (tgt := 79) dd_64_74 (by decide) (fun q17 => ?_) (fun q17 => ?_)
      · replace h := z_f h q17
        refine zg_iinc dd_64_79 (j := 2) rfl (v := (v3 + (1 : Int32))) (by rw [kI_1]) (Nat.le_of_ble_eq_true rfl) (lv' := [(3, .inl (v3 + (1 : Int32))), (0, .inr (.inr (some 0))), (2, .inl v2)]) rfl ?_
        refine zg_goto (tgt := 55) dd_64_82 (by decide) ?_
        refine zg_sub [1, 2, 0] rfl ?_
        exact ih _ _ _ h
      · replace h := z_t h q17
        refine zg_iload_n dd_64_77 rfl (j := 2) rfl ?_
        obtain rfl := Option.some.inj h
        exact zg_iret dd_64_78 rfl
set_option maxRecDepth 20000 in
theorem mt_fc_T_first {I : zI} {a1 : Int32} {a2 : Int32} {res : (Int32 × zI)} (h : fc_T_first I a1 a2 = some res) : zM 6 ym_64 [.inr (.inr (some 0)), .inl a1, .inl a2] (zCs, zCr, I) (some (.inl res.1)) (zCs, zCr, res.2) 0 0 := by
  refine zM_of (by decide) (Nat.le_of_ble_eq_true rfl) (lv := [(0, .inr (.inr (some 0))), (1, .inl a1), (2, .inl a2)]) rfl ?_
  rw [fc_T_first] at h
  refine zg_aload_n dd_64_0 rfl (j := 0) rfl ?_
  refine zg_getR dd_64_1 zl_T_12 zCs_0 rfl zCr_0_0 ?_
  refine zg_getR dd_64_4 zl_T_76 zCs_1 rfl zCr_1_0 ?_
  refine zg_iload_n dd_64_7 rfl (j := 1) rfl ?_
  obtain ⟨r1, e2, h⟩ := z_bd h
  refine zg_invV_i (av := [.inl a1]) (st := []) (n := 1) dd_64_8 ca_49 zw_631 zw_632 zw_633 zCs_2 zcl_2 rfl (mt_fc_Ground_hasPlace e2) rfl ⟨by decide +kernel, by decide⟩ (Nat.le_of_ble_eq_true rfl) ?_
  refine zg_if_eq (tgt := 28) dd_64_11 (by decide) (fun q3 => ?_) (fun q3 => ?_)
  · replace h := z_t h q3
    refine zg_aload_n dd_64_28 rfl (j := 0) rfl ?_
    refine zg_iconst dd_64_29 kI_1 ?_
    obtain ⟨r4, e5, h⟩ := z_bd h
    refine zg_invV_i (av := [.inl (1 : Int32)]) (st := []) (n := 1) dd_64_30 ca_2 zw_430 zw_432 zv_0 zCs_0 zcl_11 rfl (mt_fc_T_refuse e5) rfl ⟨by decide +kernel, by decide⟩ (Nat.le_of_ble_eq_true rfl) ?_
    obtain rfl := Option.some.inj h
    exact zg_iret dd_64_33 rfl
  · replace h := z_f h q3
    refine zg_aload_n dd_64_14 rfl (j := 0) rfl ?_
    refine zg_getR dd_64_15 zl_T_12 zCs_0 rfl zCr_0_0 ?_
    refine zg_getR dd_64_18 zl_T_76 zCs_1 rfl zCr_1_0 ?_
    refine zg_iload_n dd_64_21 rfl (j := 2) rfl ?_
    obtain ⟨r6, e7, h⟩ := z_bd h
    refine zg_invV_i (av := [.inl a2]) (st := []) (n := 1) dd_64_22 ca_49 zw_631 zw_632 zw_633 zCs_2 zcl_2 rfl (mt_fc_Ground_hasPlace e7) rfl ⟨by decide +kernel, by decide⟩ (Nat.le_of_ble_eq_true rfl) ?_
    refine zg_if_ne (tgt := 34) dd_64_25 (by decide) (fun q8 => ?_) (fun q8 => ?_)
    · replace h := z_f h q8
      refine zg_aload_n dd_64_34 rfl (j := 0) rfl ?_
      refine zg_getR dd_64_35 zl_T_48 zCs_0 rfl zCr_0_8 ?_
      refine zg_aload_n dd_64_38 rfl (j := 0) rfl ?_
      refine zg_getR dd_64_39 zl_T_12 zCs_0 rfl zCr_0_0 ?_
      obtain ⟨r9, e10, h⟩ := z_bd h
      refine zg_invV_v (av := [.inr (.inr (some 1))]) (st := []) (n := 1) dd_64_42 ca_50 zw_635 zw_636 zw_637 zCs_104 zcl_9 rfl (mt_fc_Ways_survey e10) rfl ⟨by decide +kernel, by decide⟩ (Nat.le_of_ble_eq_true rfl) ?_
      refine zg_aload_n dd_64_45 rfl (j := 0) rfl ?_
      refine zg_getR dd_64_46 zl_T_48 zCs_0 rfl zCr_0_8 ?_
      refine zg_iload_n dd_64_49 rfl (j := 1) rfl ?_
      obtain ⟨r11, e12, h⟩ := z_bd h
      refine zg_invV_v (av := [.inl a1]) (st := []) (n := 1) dd_64_50 ca_60 zw_673 zw_674 zw_675 zCs_104 zcl_9 rfl (mt_fc_Ways_spread e12) rfl ⟨by decide +kernel, by decide⟩ (Nat.le_of_ble_eq_true rfl) ?_
      refine zg_iconst dd_64_53 kI_0 ?_
      refine zg_istore_n dd_64_54 rfl (Nat.le_of_ble_eq_true rfl) (lv' := [(3, .inl (0 : Int32)), (0, .inr (.inr (some 0))), (1, .inl a1), (2, .inl a2)]) rfl ?_
      refine zg_sub [1, 3, 0] rfl ?_
      refine lt_fc_T_first_L55  _ _ _ _ h
    · replace h := z_t h q8
      refine zg_aload_n dd_64_28 rfl (j := 0) rfl ?_
      refine zg_iconst dd_64_29 kI_1 ?_
      obtain ⟨r18, e19, h⟩ := z_bd h
      refine zg_invV_i (av := [.inl (1 : Int32)]) (st := []) (n := 1) dd_64_30 ca_2 zw_430 zw_432 zv_0 zCs_0 zcl_11 rfl (mt_fc_T_refuse e19) rfl ⟨by decide +kernel, by decide⟩ (Nat.le_of_ble_eq_true rfl) ?_
      obtain rfl := Option.some.inj h
      exact zg_iret dd_64_33 rfl
/-! TurnedLand$Walks.stepsOf[None] -/
def fc_Walks_stepsOf_L6 (I : zI) : Nat → Int32 → Int32 → Int32 → Option Int32
  | 0, _, _, _ => none
  | nf + 1, v1, v2, v3 =>
    if (8 : Int32) ≤ v3 then
      if v1 = 0 then
        some v2
      else
        some (-1 : Int32)
    else
      if v1 ≤ 0 then
        if v1 = 0 then
          some v2
        else
          some (-1 : Int32)
      else
        (fc_T_within I (v1 % (10 : Int32)) (1 : Int32) (4 : Int32)).bind fun r5 =>
        if r5 = 0 then
          some (-1 : Int32)
        else
          fc_Walks_stepsOf_L6 I nf (v1 / (10 : Int32)) (v2 + (1 : Int32)) (v3 + (1 : Int32))
def fc_Walks_stepsOf (I : zI) (a0 : Int32) : Option Int32 :=
  fc_Walks_stepsOf_L6 I
    100 a0 (0 : Int32) (0 : Int32)
set_option maxRecDepth 20000 in
theorem lt_fc_Walks_stepsOf_L6 {res : Int32} {I : zI} : ∀ (nf : Nat) (v1 : Int32) (v2 : Int32) (v3 : Int32), fc_Walks_stepsOf_L6 I nf v1 v2 v3 = some res → zG 2 ym_66 0 0 (some (.inl res)) (zCs, zCr, I) zCs.length 6 [(1, .inl v1), (2, .inl v2), (3, .inl v3)] [] (zCs, zCr, I) 0 0 := by
  intro nf
  induction nf with
  | zero =>
    intro v1 v2 v3 h
    have h2 : none = some res := h
    cases h2
  | succ nf ih =>
    intro v1 v2 v3 h
    rw [fc_Walks_stepsOf_L6] at h
    refine zg_iload_n dd_66_6 rfl (j := 2) rfl ?_
    refine zg_bipush dd_66_7 kB_8 ?_
    refine zg_icmp_ge (tgt := 44) dd_66_9 (by decide) (fun q1 => ?_) (fun q1 => ?_)
    · replace h := z_t h q1
      refine zg_iload_n dd_66_44 rfl (j := 0) rfl ?_
      refine zg_if_ne (tgt := 52) dd_66_45 (by decide) (fun q2 => ?_) (fun q2 => ?_)
      · replace h := z_f h q2
        refine zg_iconst dd_66_52 kI_m1 ?_
        obtain rfl := Option.some.inj h
        exact zg_iret dd_66_53 rfl
      · replace h := z_t h q2
        refine zg_iload_n dd_66_48 rfl (j := 1) rfl ?_
        refine zg_goto (tgt := 53) dd_66_49 (by decide) ?_
        obtain rfl := Option.some.inj h
        exact zg_iret dd_66_53 rfl
    · replace h := z_f h q1
      refine zg_iload_n dd_66_12 rfl (j := 0) rfl ?_
      refine zg_if_le (tgt := 44) dd_66_13 (by decide) (fun q3 => ?_) (fun q3 => ?_)
      · replace h := z_t h q3
        refine zg_iload_n dd_66_44 rfl (j := 0) rfl ?_
        refine zg_if_ne (tgt := 52) dd_66_45 (by decide) (fun q4 => ?_) (fun q4 => ?_)
        · replace h := z_f h q4
          refine zg_iconst dd_66_52 kI_m1 ?_
          obtain rfl := Option.some.inj h
          exact zg_iret dd_66_53 rfl
        · replace h := z_t h q4
          refine zg_iload_n dd_66_48 rfl (j := 1) rfl ?_
          refine zg_goto (tgt := 53) dd_66_49 (by decide) ?_
          obtain rfl := Option.some.inj h
          exact zg_iret dd_66_53 rfl
      · replace h := z_f h q3
        refine zg_iload_n dd_66_16 rfl (j := 0) rfl ?_
        refine zg_bipush dd_66_17 kB_10 ?_
        refine zg_irem dd_66_19 (by decide) ?_
        refine zg_iconst dd_66_20 kI_1 ?_
        refine zg_iconst dd_66_21 kI_4 ?_
        obtain ⟨r5, e6, h⟩ := z_bd h
        refine zg_invSN_i (av := [.inl (v1 % (10 : Int32)), .inl (1 : Int32), .inl (4 : Int32)]) (st := []) (n := 3) dd_66_22 ca_1 (List.mem_of_getElem? (i := 14) rfl) zw_428 (mt_fc_T_within e6) rfl ⟨by decide +kernel, by decide⟩ (Nat.le_of_ble_eq_true rfl) ?_
        refine zg_if_ne (tgt := 30) dd_66_25 (by decide) (fun q7 => ?_) (fun q7 => ?_)
        · replace h := z_f h q7
          refine zg_iload_n dd_66_30 rfl (j := 0) rfl ?_
          refine zg_bipush dd_66_31 kB_10 ?_
          refine zg_idiv dd_66_33 (by decide) ?_
          refine zg_istore_n dd_66_34 rfl (Nat.le_of_ble_eq_true rfl) (lv' := [(1, .inl (v1 / (10 : Int32))), (2, .inl v2), (3, .inl v3)]) rfl ?_
          refine zg_iinc dd_66_35 (j := 1) rfl (v := (v2 + (1 : Int32))) (by rw [kI_1]) (Nat.le_of_ble_eq_true rfl) (lv' := [(2, .inl (v2 + (1 : Int32))), (1, .inl (v1 / (10 : Int32))), (3, .inl v3)]) rfl ?_
          refine zg_iinc dd_66_38 (j := 2) rfl (v := (v3 + (1 : Int32))) (by rw [kI_1]) (Nat.le_of_ble_eq_true rfl) (lv' := [(3, .inl (v3 + (1 : Int32))), (2, .inl (v2 + (1 : Int32))), (1, .inl (v1 / (10 : Int32)))]) rfl ?_
          refine zg_goto (tgt := 6) dd_66_41 (by decide) ?_
          refine zg_sub [2, 1, 0] rfl ?_
          exact ih _ _ _ h
        · replace h := z_t h q7
          refine zg_iconst dd_66_28 kI_m1 ?_
          obtain rfl := Option.some.inj h
          exact zg_iret dd_66_29 rfl
set_option maxRecDepth 20000 in
theorem mt_fc_Walks_stepsOf {I : zI} {a0 : Int32} {res : Int32} (h : fc_Walks_stepsOf I a0 = some res) : zM 2 ym_66 [.inl a0] (zCs, zCr, I) (some (.inl res)) (zCs, zCr, I) 0 0 := by
  refine zM_of (by decide) (Nat.le_of_ble_eq_true rfl) (lv := [(0, .inl a0)]) rfl ?_
  rw [fc_Walks_stepsOf] at h
  refine zg_iload_n dd_66_0 rfl (j := 0) rfl ?_
  refine zg_istore_n dd_66_1 rfl (Nat.le_of_ble_eq_true rfl) (lv' := [(1, .inl a0), (0, .inl a0)]) rfl ?_
  refine zg_iconst dd_66_2 kI_0 ?_
  refine zg_istore_n dd_66_3 rfl (Nat.le_of_ble_eq_true rfl) (lv' := [(2, .inl (0 : Int32)), (1, .inl a0), (0, .inl a0)]) rfl ?_
  refine zg_iconst dd_66_4 kI_0 ?_
  refine zg_istore_n dd_66_5 rfl (Nat.le_of_ble_eq_true rfl) (lv' := [(3, .inl (0 : Int32)), (2, .inl (0 : Int32)), (1, .inl a0), (0, .inl a0)]) rfl ?_
  refine zg_sub [2, 1, 0] rfl ?_
  refine lt_fc_Walks_stepsOf_L6  _ _ _ _ h
/-! TurnedLand$Walks.add[7, None, None, None] -/
def fc_Walks_add_L59 : Nat → Int32 → Int32 → zI → Option (Int32 × zI)
  | 0, _, _, _ => none
  | nf + 1, v4, v5, I =>
    if v5 < 0 then
      some ((I 7 0), (zup I 7 0 ((I 7 0) + (1 : Int32))))
    else
      z_guard (zb (I 7 0) 10) <|
      z_guard (zb v5 8) <|
      fc_Walks_add_L59 nf (v4 / (10 : Int32)) (v5 + (-1 : Int32)) (zup I (13 + (I 7 0).toNatClampNeg) v5.toNatClampNeg ((v4 % (10 : Int32)) - (1 : Int32)))
def fc_Walks_add (I : zI) (a1 : Int32) (a2 : Int32) (a3 : Int32) : Option (Int32 × zI) :=
  z_guard (zb (I 7 0) 10) <|
  z_guard (zb ((zup I 8 (I 7 0).toNatClampNeg a1) 7 0) 10) <|
  (fc_Walks_stepsOf (zup (zup I 8 (I 7 0).toNatClampNeg a1) 9 ((zup I 8 (I 7 0).toNatClampNeg a1) 7 0).toNatClampNeg a2) a3).bind fun r3 =>
  z_guard (zb ((zup (zup I 8 (I 7 0).toNatClampNeg a1) 9 ((zup I 8 (I 7 0).toNatClampNeg a1) 7 0).toNatClampNeg a2) 7 0) 10) <|
  z_guard (zb ((zup (zup (zup I 8 (I 7 0).toNatClampNeg a1) 9 ((zup I 8 (I 7 0).toNatClampNeg a1) 7 0).toNatClampNeg a2) 10 ((zup (zup I 8 (I 7 0).toNatClampNeg a1) 9 ((zup I 8 (I 7 0).toNatClampNeg a1) 7 0).toNatClampNeg a2) 7 0).toNatClampNeg r3) 7 0) 10) <|
  z_guard (zb ((zup (zup (zup (zup I 8 (I 7 0).toNatClampNeg a1) 9 ((zup I 8 (I 7 0).toNatClampNeg a1) 7 0).toNatClampNeg a2) 10 ((zup (zup I 8 (I 7 0).toNatClampNeg a1) 9 ((zup I 8 (I 7 0).toNatClampNeg a1) 7 0).toNatClampNeg a2) 7 0).toNatClampNeg r3) 11 ((zup (zup (zup I 8 (I 7 0).toNatClampNeg a1) 9 ((zup I 8 (I 7 0).toNatClampNeg a1) 7 0).toNatClampNeg a2) 10 ((zup (zup I 8 (I 7 0).toNatClampNeg a1) 9 ((zup I 8 (I 7 0).toNatClampNeg a1) 7 0).toNatClampNeg a2) 7 0).toNatClampNeg r3) 7 0).toNatClampNeg (-1 : Int32)) 7 0) 10) <|
  fc_Walks_add_L59
    100 a3 (((zup (zup (zup (zup I 8 (I 7 0).toNatClampNeg a1) 9 ((zup I 8 (I 7 0).toNatClampNeg a1) 7 0).toNatClampNeg a2) 10 ((zup (zup I 8 (I 7 0).toNatClampNeg a1) 9 ((zup I 8 (I 7 0).toNatClampNeg a1) 7 0).toNatClampNeg a2) 7 0).toNatClampNeg r3) 11 ((zup (zup (zup I 8 (I 7 0).toNatClampNeg a1) 9 ((zup I 8 (I 7 0).toNatClampNeg a1) 7 0).toNatClampNeg a2) 10 ((zup (zup I 8 (I 7 0).toNatClampNeg a1) 9 ((zup I 8 (I 7 0).toNatClampNeg a1) 7 0).toNatClampNeg a2) 7 0).toNatClampNeg r3) 7 0).toNatClampNeg (-1 : Int32)) 10 ((zup (zup (zup (zup I 8 (I 7 0).toNatClampNeg a1) 9 ((zup I 8 (I 7 0).toNatClampNeg a1) 7 0).toNatClampNeg a2) 10 ((zup (zup I 8 (I 7 0).toNatClampNeg a1) 9 ((zup I 8 (I 7 0).toNatClampNeg a1) 7 0).toNatClampNeg a2) 7 0).toNatClampNeg r3) 11 ((zup (zup (zup I 8 (I 7 0).toNatClampNeg a1) 9 ((zup I 8 (I 7 0).toNatClampNeg a1) 7 0).toNatClampNeg a2) 10 ((zup (zup I 8 (I 7 0).toNatClampNeg a1) 9 ((zup I 8 (I 7 0).toNatClampNeg a1) 7 0).toNatClampNeg a2) 7 0).toNatClampNeg r3) 7 0).toNatClampNeg (-1 : Int32)) 7 0).toNatClampNeg) - (1 : Int32)) (zup (zup (zup (zup I 8 (I 7 0).toNatClampNeg a1) 9 ((zup I 8 (I 7 0).toNatClampNeg a1) 7 0).toNatClampNeg a2) 10 ((zup (zup I 8 (I 7 0).toNatClampNeg a1) 9 ((zup I 8 (I 7 0).toNatClampNeg a1) 7 0).toNatClampNeg a2) 7 0).toNatClampNeg r3) 11 ((zup (zup (zup I 8 (I 7 0).toNatClampNeg a1) 9 ((zup I 8 (I 7 0).toNatClampNeg a1) 7 0).toNatClampNeg a2) 10 ((zup (zup I 8 (I 7 0).toNatClampNeg a1) 9 ((zup I 8 (I 7 0).toNatClampNeg a1) 7 0).toNatClampNeg a2) 7 0).toNatClampNeg r3) 7 0).toNatClampNeg (-1 : Int32))
set_option maxRecDepth 20000 in
theorem lt_fc_Walks_add_L59 {res : (Int32 × zI)} : ∀ (nf : Nat) (v4 : Int32) (v5 : Int32) (I : zI), fc_Walks_add_L59 nf v4 v5 I = some res → zG 3 ym_67 0 0 (some (.inl res.1)) (zCs, zCr, res.2) zCs.length 59 [(0, .inr (.inr (some 7))), (4, .inl v4), (5, .inl v5)] [] (zCs, zCr, I) 0 0 := by
  intro nf
  induction nf with
  | zero =>
    intro v4 v5 I h
    have h2 : none = some res := h
    cases h2
  | succ nf ih =>
    intro v4 v5 I h
    rw [fc_Walks_add_L59] at h
    refine zg_iload dd_67_59 (j := 2) rfl ?_
    refine zg_if_lt (tgt := 96) dd_67_61 (by decide) (fun q8 => ?_) (fun q8 => ?_)
    · replace h := z_t h q8
      refine zg_aload_n dd_67_96 rfl (j := 0) rfl ?_
      refine zg_dup dd_67_97 rfl ?_
      refine zg_getI dd_67_98 zl_Walks_9 zCs_7 rfl ?_
      refine zg_dup_x1 dd_67_101 rfl rfl ?_
      refine zg_iconst dd_67_102 kI_1 ?_
      refine zg_iadd dd_67_103 ?_
      refine zg_putI dd_67_104 zp_Walks_9 zCs_7 rfl (zSt_int _) ?_
      obtain rfl := Option.some.inj h
      exact zg_iret dd_67_107 rfl
    · replace h := z_f h q8
      refine zg_aload_n dd_67_64 rfl (j := 0) rfl ?_
      refine zg_getR dd_67_65 zl_Walks_30 zCs_7 rfl zCr_7_5 ?_
      refine zg_aload_n dd_67_68 rfl (j := 0) rfl ?_
      refine zg_getI dd_67_69 zl_Walks_9 zCs_7 rfl ?_
      obtain ⟨g9, h⟩ := z_gd h
      refine zg_aald1 dd_67_72 zCs_12 g9 (zrR_C_12 g9) ?_
      refine zg_iload dd_67_73 (j := 2) rfl ?_
      refine zg_iload dd_67_75 (j := 1) rfl ?_
      refine zg_bipush dd_67_77 kB_10 ?_
      refine zg_irem dd_67_79 (by decide) ?_
      refine zg_iconst dd_67_80 kI_1 ?_
      refine zg_isub dd_67_81 ?_
      obtain ⟨g10, h⟩ := z_gd h
      refine zg_iast dd_67_82 (zrS_C_12 g9) g10 ?_
      refine zg_iload dd_67_83 (j := 1) rfl ?_
      refine zg_bipush dd_67_85 kB_10 ?_
      refine zg_idiv dd_67_87 (by decide) ?_
      refine zg_istore dd_67_88 (Nat.le_of_ble_eq_true rfl) (lv' := [(4, .inl (v4 / (10 : Int32))), (0, .inr (.inr (some 7))), (5, .inl v5)]) rfl ?_
      refine zg_iinc dd_67_90 (j := 2) rfl (v := (v5 + (-1 : Int32))) (by rw [kI_m1]) (Nat.le_of_ble_eq_true rfl) (lv' := [(5, .inl (v5 + (-1 : Int32))), (4, .inl (v4 / (10 : Int32))), (0, .inr (.inr (some 7)))]) rfl ?_
      refine zg_goto (tgt := 59) dd_67_93 (by decide) ?_
      refine zg_sub [2, 1, 0] rfl ?_
      exact ih _ _ _ h
set_option maxRecDepth 20000 in
theorem mt_fc_Walks_add {I : zI} {a1 : Int32} {a2 : Int32} {a3 : Int32} {res : (Int32 × zI)} (h : fc_Walks_add I a1 a2 a3 = some res) : zM 3 ym_67 [.inr (.inr (some 7)), .inl a1, .inl a2, .inl a3] (zCs, zCr, I) (some (.inl res.1)) (zCs, zCr, res.2) 0 0 := by
  refine zM_of (by decide) (Nat.le_of_ble_eq_true rfl) (lv := [(0, .inr (.inr (some 7))), (1, .inl a1), (2, .inl a2), (3, .inl a3)]) rfl ?_
  rw [fc_Walks_add] at h
  refine zg_aload_n dd_67_0 rfl (j := 0) rfl ?_
  refine zg_getR dd_67_1 zl_Walks_15 zCs_7 rfl zCr_7_1 ?_
  refine zg_aload_n dd_67_4 rfl (j := 0) rfl ?_
  refine zg_getI dd_67_5 zl_Walks_9 zCs_7 rfl ?_
  refine zg_iload_n dd_67_8 rfl (j := 1) rfl ?_
  obtain ⟨g1, h⟩ := z_gd h
  refine zg_iast dd_67_9 zCs_8 g1 ?_
  refine zg_aload_n dd_67_10 rfl (j := 0) rfl ?_
  refine zg_getR dd_67_11 zl_Walks_19 zCs_7 rfl zCr_7_2 ?_
  refine zg_aload_n dd_67_14 rfl (j := 0) rfl ?_
  refine zg_getI dd_67_15 zl_Walks_9 zCs_7 rfl ?_
  refine zg_iload_n dd_67_18 rfl (j := 2) rfl ?_
  obtain ⟨g2, h⟩ := z_gd h
  refine zg_iast dd_67_19 zCs_9 g2 ?_
  refine zg_aload_n dd_67_20 rfl (j := 0) rfl ?_
  refine zg_getR dd_67_21 zl_Walks_22 zCs_7 rfl zCr_7_3 ?_
  refine zg_aload_n dd_67_24 rfl (j := 0) rfl ?_
  refine zg_getI dd_67_25 zl_Walks_9 zCs_7 rfl ?_
  refine zg_iload_n dd_67_28 rfl (j := 3) rfl ?_
  obtain ⟨r3, e4, h⟩ := z_bd h
  refine zg_invS_i (av := [.inl a3]) (st := [.inl ((zup (zup I 8 (I 7 0).toNatClampNeg a1) 9 ((zup I 8 (I 7 0).toNatClampNeg a1) 7 0).toNatClampNeg a2) 7 0), .inr (.inr (some 10))]) (n := 1) dd_67_29 ca_66 zw_706 zw_699 (mt_fc_Walks_stepsOf e4) rfl ⟨by decide +kernel, by decide⟩ (Nat.le_of_ble_eq_true rfl) ?_
  obtain ⟨g5, h⟩ := z_gd h
  refine zg_iast dd_67_32 zCs_10 g5 ?_
  refine zg_aload_n dd_67_33 rfl (j := 0) rfl ?_
  refine zg_getR dd_67_34 zl_Walks_25 zCs_7 rfl zCr_7_4 ?_
  refine zg_aload_n dd_67_37 rfl (j := 0) rfl ?_
  refine zg_getI dd_67_38 zl_Walks_9 zCs_7 rfl ?_
  refine zg_iconst dd_67_41 kI_m1 ?_
  obtain ⟨g6, h⟩ := z_gd h
  refine zg_iast dd_67_42 zCs_11 g6 ?_
  refine zg_iload_n dd_67_43 rfl (j := 3) rfl ?_
  refine zg_istore dd_67_44 (Nat.le_of_ble_eq_true rfl) (lv' := [(4, .inl a3), (0, .inr (.inr (some 7))), (1, .inl a1), (2, .inl a2), (3, .inl a3)]) rfl ?_
  refine zg_aload_n dd_67_46 rfl (j := 1) rfl ?_
  refine zg_getR dd_67_47 zl_Walks_22 zCs_7 rfl zCr_7_3 ?_
  refine zg_aload_n dd_67_50 rfl (j := 1) rfl ?_
  refine zg_getI dd_67_51 zl_Walks_9 zCs_7 rfl ?_
  obtain ⟨g7, h⟩ := z_gd h
  refine zg_iald dd_67_54 zCs_10 g7 ?_
  refine zg_iconst dd_67_55 kI_1 ?_
  refine zg_isub dd_67_56 ?_
  refine zg_istore dd_67_57 (Nat.le_of_ble_eq_true rfl) (lv' := [(5, .inl (((zup (zup (zup (zup I 8 (I 7 0).toNatClampNeg a1) 9 ((zup I 8 (I 7 0).toNatClampNeg a1) 7 0).toNatClampNeg a2) 10 ((zup (zup I 8 (I 7 0).toNatClampNeg a1) 9 ((zup I 8 (I 7 0).toNatClampNeg a1) 7 0).toNatClampNeg a2) 7 0).toNatClampNeg r3) 11 ((zup (zup (zup I 8 (I 7 0).toNatClampNeg a1) 9 ((zup I 8 (I 7 0).toNatClampNeg a1) 7 0).toNatClampNeg a2) 10 ((zup (zup I 8 (I 7 0).toNatClampNeg a1) 9 ((zup I 8 (I 7 0).toNatClampNeg a1) 7 0).toNatClampNeg a2) 7 0).toNatClampNeg r3) 7 0).toNatClampNeg (-1 : Int32)) 10 ((zup (zup (zup (zup I 8 (I 7 0).toNatClampNeg a1) 9 ((zup I 8 (I 7 0).toNatClampNeg a1) 7 0).toNatClampNeg a2) 10 ((zup (zup I 8 (I 7 0).toNatClampNeg a1) 9 ((zup I 8 (I 7 0).toNatClampNeg a1) 7 0).toNatClampNeg a2) 7 0).toNatClampNeg r3) 11 ((zup (zup (zup I 8 (I 7 0).toNatClampNeg a1) 9 ((zup I 8 (I 7 0).toNatClampNeg a1) 7 0).toNatClampNeg a2) 10 ((zup (zup I 8 (I 7 0).toNatClampNeg a1) 9 ((zup I 8 (I 7 0).toNatClampNeg a1) 7 0).toNatClampNeg a2) 7 0).toNatClampNeg r3) 7 0).toNatClampNeg (-1 : Int32)) 7 0).toNatClampNeg) - (1 : Int32))), (4, .inl a3), (0, .inr (.inr (some 7))), (1, .inl a1), (2, .inl a2), (3, .inl a3)]) rfl ?_
  refine zg_sub [2, 1, 0] rfl ?_
  refine lt_fc_Walks_add_L59  _ _ _ _ h
/-! TurnedLand.walk(0, None, None, None) -/
def fc_T_walk (I : zI) (a1 : Int32) (a2 : Int32) (a3 : Int32) : Option (Int32 × zI) :=
  (fc_Walks_stepsOf I a3).bind fun r1 =>
  (fc_T_within I a1 (0 : Int32) (6 : Int32)).bind fun r3 =>
  if r3 = 0 then
    (fc_T_refuse I (1 : Int32)).bind fun r6 =>
    some (r6.1, r6.2)
  else
    (fc_Ground_hasSquare I a2).bind fun r8 =>
    if r8 = 0 then
      (fc_T_refuse I (1 : Int32)).bind fun r11 =>
      some (r11.1, r11.2)
    else
      if 0 ≤ r1 then
        if (I 7 0) < (10 : Int32) then
          (fc_Walks_add I a1 a2 a3).bind fun r15 =>
          some (r15.1, r15.2)
        else
          (fc_T_refuse I (4 : Int32)).bind fun r17 =>
          some (r17.1, r17.2)
      else
        (fc_T_refuse I (1 : Int32)).bind fun r19 =>
        some (r19.1, r19.2)
set_option maxRecDepth 20000 in
theorem mt_fc_T_walk {I : zI} {a1 : Int32} {a2 : Int32} {a3 : Int32} {res : (Int32 × zI)} (h : fc_T_walk I a1 a2 a3 = some res) : zM 4 ym_65 [.inr (.inr (some 0)), .inl a1, .inl a2, .inl a3] (zCs, zCr, I) (some (.inl res.1)) (zCs, zCr, res.2) 0 0 := by
  refine zM_of (by decide) (Nat.le_of_ble_eq_true rfl) (lv := [(0, .inr (.inr (some 0))), (1, .inl a1), (2, .inl a2), (3, .inl a3)]) rfl ?_
  rw [fc_T_walk] at h
  refine zg_aload_n dd_65_0 rfl (j := 0) rfl ?_
  refine zg_getR dd_65_1 zl_T_12 zCs_0 rfl zCr_0_0 ?_
  refine zg_getR dd_65_4 zl_T_199 zCs_1 rfl zCr_1_1 ?_
  refine zg_astore dd_65_7 (Nat.le_of_ble_eq_true rfl) (lv' := [(4, .inr (.inr (some 7))), (0, .inr (.inr (some 0))), (1, .inl a1), (2, .inl a2), (3, .inl a3)]) rfl ?_
  refine zg_iload_n dd_65_9 rfl (j := 4) rfl ?_
  obtain ⟨r1, e2, h⟩ := z_bd h
  refine zg_invS_i (av := [.inl a3]) (st := []) (n := 1) dd_65_10 ca_66 zw_698 zw_699 (mt_fc_Walks_stepsOf e2) rfl ⟨by decide +kernel, by decide⟩ (Nat.le_of_ble_eq_true rfl) ?_
  refine zg_istore dd_65_13 (Nat.le_of_ble_eq_true rfl) (lv' := [(5, .inl r1), (4, .inr (.inr (some 7))), (0, .inr (.inr (some 0))), (1, .inl a1), (2, .inl a2), (3, .inl a3)]) rfl ?_
  refine zg_iload_n dd_65_15 rfl (j := 3) rfl ?_
  refine zg_iconst dd_65_16 kI_0 ?_
  refine zg_bipush dd_65_17 kB_6 ?_
  obtain ⟨r3, e4, h⟩ := z_bd h
  refine zg_invS_i (av := [.inl a1, .inl (0 : Int32), .inl (6 : Int32)]) (st := []) (n := 3) dd_65_19 ca_1 zw_427 zw_428 (mt_fc_T_within e4) rfl ⟨by decide +kernel, by decide⟩ (Nat.le_of_ble_eq_true rfl) ?_
  refine zg_if_eq (tgt := 44) dd_65_22 (by decide) (fun q5 => ?_) (fun q5 => ?_)
  · replace h := z_t h q5
    refine zg_aload_n dd_65_44 rfl (j := 2) rfl ?_
    refine zg_iconst dd_65_45 kI_1 ?_
    obtain ⟨r6, e7, h⟩ := z_bd h
    refine zg_invV_i (av := [.inl (1 : Int32)]) (st := []) (n := 1) dd_65_46 ca_2 zw_430 zw_432 zv_0 zCs_0 zcl_11 rfl (mt_fc_T_refuse e7) rfl ⟨by decide +kernel, by decide⟩ (Nat.le_of_ble_eq_true rfl) ?_
    obtain rfl := Option.some.inj h
    exact zg_iret dd_65_49 rfl
  · replace h := z_f h q5
    refine zg_aload_n dd_65_25 rfl (j := 2) rfl ?_
    refine zg_getR dd_65_26 zl_T_12 zCs_0 rfl zCr_0_0 ?_
    refine zg_getR dd_65_29 zl_T_76 zCs_1 rfl zCr_1_0 ?_
    refine zg_iload_n dd_65_32 rfl (j := 4) rfl ?_
    obtain ⟨r8, e9, h⟩ := z_bd h
    refine zg_invV_i (av := [.inl a2]) (st := []) (n := 1) dd_65_33 ca_4 zw_439 zw_440 zw_441 zCs_2 zcl_2 rfl (mt_fc_Ground_hasSquare e9) rfl ⟨by decide +kernel, by decide⟩ (Nat.le_of_ble_eq_true rfl) ?_
    refine zg_if_eq (tgt := 44) dd_65_36 (by decide) (fun q10 => ?_) (fun q10 => ?_)
    · replace h := z_t h q10
      refine zg_aload_n dd_65_44 rfl (j := 2) rfl ?_
      refine zg_iconst dd_65_45 kI_1 ?_
      obtain ⟨r11, e12, h⟩ := z_bd h
      refine zg_invV_i (av := [.inl (1 : Int32)]) (st := []) (n := 1) dd_65_46 ca_2 zw_430 zw_432 zv_0 zCs_0 zcl_11 rfl (mt_fc_T_refuse e12) rfl ⟨by decide +kernel, by decide⟩ (Nat.le_of_ble_eq_true rfl) ?_
      obtain rfl := Option.some.inj h
      exact zg_iret dd_65_49 rfl
    · replace h := z_f h q10
      refine zg_iload dd_65_39 (j := 0) rfl ?_
      refine zg_if_ge (tgt := 50) dd_65_41 (by decide) (fun q13 => ?_) (fun q13 => ?_)
      · replace h := z_t h q13
        refine zg_aload dd_65_50 (j := 1) rfl ?_
        refine zg_getI dd_65_52 zl_T_208 zCs_7 rfl ?_
        refine zg_bipush dd_65_55 kB_10 ?_
        refine zg_icmp_lt (tgt := 66) dd_65_57 (by decide) (fun q14 => ?_) (fun q14 => ?_)
        · replace h := z_t h q14
          refine zg_aload dd_65_66 (j := 1) rfl ?_
          refine zg_iload_n dd_65_68 rfl (j := 3) rfl ?_
          refine zg_iload_n dd_65_69 rfl (j := 4) rfl ?_
          refine zg_iload_n dd_65_70 rfl (j := 5) rfl ?_
          obtain ⟨r15, e16, h⟩ := z_bd h
          refine zg_invV_i (av := [.inl a1, .inl a2, .inl a3]) (st := []) (n := 3) dd_65_71 ca_67 zw_702 zw_703 zw_704 zCs_7 zcl_8 rfl (mt_fc_Walks_add e16) rfl ⟨by decide +kernel, by decide⟩ (Nat.le_of_ble_eq_true rfl) ?_
          obtain rfl := Option.some.inj h
          exact zg_iret dd_65_74 rfl
        · replace h := z_f h q14
          refine zg_aload_n dd_65_60 rfl (j := 2) rfl ?_
          refine zg_iconst dd_65_61 kI_4 ?_
          obtain ⟨r17, e18, h⟩ := z_bd h
          refine zg_invV_i (av := [.inl (4 : Int32)]) (st := []) (n := 1) dd_65_62 ca_2 zw_430 zw_432 zv_0 zCs_0 zcl_11 rfl (mt_fc_T_refuse e18) rfl ⟨by decide +kernel, by decide⟩ (Nat.le_of_ble_eq_true rfl) ?_
          obtain rfl := Option.some.inj h
          exact zg_iret dd_65_65 rfl
      · replace h := z_f h q13
        refine zg_aload_n dd_65_44 rfl (j := 2) rfl ?_
        refine zg_iconst dd_65_45 kI_1 ?_
        obtain ⟨r19, e20, h⟩ := z_bd h
        refine zg_invV_i (av := [.inl (1 : Int32)]) (st := []) (n := 1) dd_65_46 ca_2 zw_430 zw_432 zv_0 zCs_0 zcl_11 rfl (mt_fc_T_refuse e20) rfl ⟨by decide +kernel, by decide⟩ (Nat.le_of_ble_eq_true rfl) ?_
        obtain rfl := Option.some.inj h
        exact zg_iret dd_65_49 rfl
