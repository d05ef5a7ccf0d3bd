/-! TurnedLand.told(0, None) -/
def fc_T_told (I : zI) (a1 : Int32) : Option (Int32 × zI) :=
  (fc_T_within I a1 (1 : Int32) (6 : Int32)).bind fun r1 =>
  if r1 = 0 then
    (fc_T_refuse I (1 : Int32)).bind fun r5 =>
    some (r5.1, r5.2)
  else
    z_guard (zb a1 7) <|
    some ((I 93 a1.toNatClampNeg), I)
set_option maxRecDepth 20000 in
theorem mt_fc_T_told {I : zI} {a1 : Int32} {res : (Int32 × zI)} (h : fc_T_told I a1 = some res) : zM 3 ym_139 [.inr (.inr (some 0)), .inl a1] (zCs, zCr, I) (some (.inl res.1)) (zCs, zCr, res.2) 0 0 := by
  refine zM_of (by decide) (Nat.le_of_ble_eq_true rfl) (lv := [(0, .inr (.inr (some 0))), (1, .inl a1)]) rfl ?_
  rw [fc_T_told] at h
  refine zg_iload_n dd_139_0 rfl (j := 1) rfl ?_
  refine zg_iconst dd_139_1 kI_1 ?_
  refine zg_bipush dd_139_2 kB_6 ?_
  obtain ⟨r1, e2, h⟩ := z_bd h
  refine zg_invS_i (av := [.inl a1, .inl (1 : Int32), .inl (6 : Int32)]) (st := []) (n := 3) dd_139_4 ca_1 zw_427 zw_428 (mt_fc_T_within e2) rfl ⟨by decide +kernel, by decide⟩ (Nat.le_of_ble_eq_true rfl) ?_
  refine zg_if_ne (tgt := 16) dd_139_7 (by decide) (fun q3 => ?_) (fun q3 => ?_)
  · replace h := z_f h q3
    refine zg_aload_n dd_139_16 rfl (j := 0) rfl ?_
    refine zg_getR dd_139_17 zl_T_23 zCs_0 rfl zCr_0_3 ?_
    refine zg_iload_n dd_139_20 rfl (j := 1) rfl ?_
    obtain ⟨g4, h⟩ := z_gd h
    refine zg_iald dd_139_21 zCs_93 g4 ?_
    obtain rfl := Option.some.inj h
    exact zg_iret dd_139_22 rfl
  · replace h := z_t h q3
    refine zg_aload_n dd_139_10 rfl (j := 0) rfl ?_
    refine zg_iconst dd_139_11 kI_1 ?_
    obtain ⟨r5, e6, h⟩ := z_bd h
    refine zg_invV_i (av := [.inl (1 : Int32)]) (st := []) (n := 1) dd_139_12 ca_2 zw_430 zw_432 zv_0 zCs_0 zcl_11 rfl (mt_fc_T_refuse e6) rfl ⟨by decide +kernel, by decide⟩ (Nat.le_of_ble_eq_true rfl) ?_
    obtain rfl := Option.some.inj h
    exact zg_iret dd_139_15 rfl
