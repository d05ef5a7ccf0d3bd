/-! THE LAW: the walk -/
section QL
variable {p : Program} {l : Launch} {e : Env} {s : State} {m : MethodId} {below : List Frame} {meth : Method} {c : Code} {b L : Nat} {xs : Nat → Int32} {dC : Nat → ClassId} {dI : Nat → Nat → Nat} {cA : Nat → ClassId} {ad1 ad2 : Nat → Nat} {cells slots : Nat} {Q : State → Prop} 
theorem q_cmp {L i : Nat} (hL : L ≤ 384) (hi : i ≤ 400) : (nI L - 6 < nI i) ↔ (L < i + 6) := by
  have h6 : (6 : Int32).toInt = 6 := by decide
  have e : (nI L - 6).toInt = (L : Int) - 6 := by
    rw [Jvm.Kit.i32_sub (by rw [nI_toInt (by omega), h6]; omega) (by rw [nI_toInt (by omega), h6]; omega), nI_toInt (by omega), h6]
  rw [Int32.lt_iff_toInt_lt, e, nI_toInt (by omega)]
  omega
theorem q_and (x : Int32) : ∃ k : Nat, k < 64 ∧ x &&& 63 = nI k := by
  refine ⟨(x &&& 63).toBitVec.toNat, ?_, ?_⟩
  · have e : (x &&& 63).toBitVec.toNat = x.toBitVec.toNat &&& 63 := by
      rw [Int32.toBitVec_and, BitVec.toNat_and]
      rfl
    rw [e]
    have := @Nat.and_le_right x.toBitVec.toNat 63
    omega
  · apply Int32.toBitVec_inj.mp
    show _ = BitVec.ofNat 32 (x &&& 63).toBitVec.toNat
    rw [BitVec.ofNat_toNat]
    simp
set_option maxHeartbeats 4000000 in
theorem q_loop (cx : qC p s m c b L xs) (hL : L ≤ 384) (hroom : cells ≤ 600000 ∧ slots ≤ 7302250) (hend : ∀ (H : Heap) (ls : Array Slot), W p l e room_1 s m #[Value.ref b] below meth c H [] 600000 7302250 Q (F0 m 1661 ls [.int 1])) :
    ∀ (n i : Nat) (I J : zI) (H : Heap) (locs : List Loc) (ls : Array Slot), i ≤ 394 → L < i + 6 * n → lv_has ls 4 [(3, .int (nI i)), (0, .ref b), (1, .ref (ad1 0)), (2, .ref (ad2 0))] → qH dC dI cA ad1 (zCs, zCr, I) ad2 (zMs, zMr, J) s H locs → rR I J → W p l e room_1 s m #[Value.ref b] below meth c H locs cells slots Q (F0 m 18 ls []) := by
  intro n
  induction n with
  | zero =>
    intro i I J H locs ls hi0 hn hl h hR
    refine lv_iload_n cx.1 cx.2.1 dl_18.1 rfl (lv_at hl 0 rfl) ?_
    refine lv_aload_n cx.1 cx.2.1 dl_19.1 rfl (lv_at hl 1 rfl) ?_
    refine va_slen cx.1 cx.2.1 cx.2.2.2.2.2.1 cx.2.2.2.2.2.2.1 (Nat.not_le.mpr cx.2.2.2.2.2.2.1) h.2.2.2.2 dl_20.1 ?_
    refine lv_bipush cx.1 cx.2.1 dl_21.1 (v := 6) (by decide) ?_
    refine lv_isub cx.1 cx.2.1 dl_23.1 ?_
    refine lv_icmp_gt cx.1 cx.2.1 dl_24.1 (tgt := 1660) (by decide) (fun _ => ?_) (fun hne => absurd ((q_cmp hL (by omega)).mpr (by omega)) hne)
    refine lv_iconst cx.1 cx.2.1 dl_1660.1 (v := 1) (by decide) ?_
    refine va_forget (fun q hq => h.2.2.2.2.2.2 q hq) ?_
    exact W.widen (k := 600000) (n := 7302250) hroom.1 hroom.2 (hend _ _)
  | succ n ih =>
    intro i I J H locs ls hi0 hn hl h hR
    refine lv_iload_n cx.1 cx.2.1 dl_18.1 rfl (lv_at hl 0 rfl) ?_
    refine lv_aload_n cx.1 cx.2.1 dl_19.1 rfl (lv_at hl 1 rfl) ?_
    refine va_slen cx.1 cx.2.1 cx.2.2.2.2.2.1 cx.2.2.2.2.2.2.1 (Nat.not_le.mpr cx.2.2.2.2.2.2.1) h.2.2.2.2 dl_20.1 ?_
    refine lv_bipush cx.1 cx.2.1 dl_21.1 (v := 6) (by decide) ?_
    refine lv_isub cx.1 cx.2.1 dl_23.1 ?_
    refine lv_icmp_gt cx.1 cx.2.1 dl_24.1 (tgt := 1660) (by decide) (fun _ => ?_) (fun hne => ?_)
    · refine lv_iconst cx.1 cx.2.1 dl_1660.1 (v := 1) (by decide) ?_
      refine va_forget (fun q hq => h.2.2.2.2.2.2 q hq) ?_
      exact W.widen (k := 600000) (n := 7302250) hroom.1 hroom.2 (hend _ _)
    have hi : i + 5 < L := by
      have := mt (q_cmp hL (by omega)).mpr hne
      omega
    refine lv_aload_n cx.1 cx.2.1 dl_27.1 rfl (lv_at hl 1 rfl) ?_
    refine lv_iload_n cx.1 cx.2.1 dl_28.1 rfl (lv_at hl 0 rfl) ?_
    refine va_sld cx.1 cx.2.1 cx.2.2.2.2.2.1 cx.2.2.2.2.2.2.1 (Nat.not_le.mpr cx.2.2.2.2.2.2.1) h.2.2.2.2 (zb_in (zb_nI (show i < L by omega) (by omega))) dl_29.1 ?_
    refine lv_bipush cx.1 cx.2.1 dl_30.1 (v := 63) (by decide) ?_
    refine lv_iand cx.1 cx.2.1 dl_32.1 ?_
    have hk1 : ∀ (I2 J2 : zI) (H2 : Heap) (locs2 : List Loc), qH dC dI cA ad1 (zCs, zCr, I2) ad2 (zMs, zMr, J2) s H2 locs2 → rR I2 J2 → W p l e room_1 s m #[Value.ref b] below meth c H2 locs2 cells slots Q (F0 m 1654 ls []) := by
      intro I2 J2 H2 locs2 h2 hR2
      refine lv_iinc (k := 0) cx.1 cx.2.1 dl_1654.1 hl rfl (v := nI (i + 6)) (by rw [← nI_add]; rfl) (by decide) rfl (fun ls2 hl2 => ?_)
      refine lv_goto cx.1 cx.2.1 dl_1657.1 (tgt := 18) (by decide) ?_
      exact ih (i + 6) I2 J2 H2 locs2 ls2 (by omega) (by omega) hl2 h2 hR2
    obtain ⟨k, hk, ek⟩ := q_and (xs (nI i).toNatClampNeg)
    rw [ek]
    by_cases e0 : k = 0
    · subst e0
      exact lv_tableIn cx.1 cx.2.1 dl_33.1 (by decide) (by decide) (off := 207) (tgt := 240) rfl (by decide) (qc_0 cx hl hi hL hroom h hR hk1)
    by_cases e1 : k = 1
    · subst e1
      exact lv_tableIn cx.1 cx.2.1 dl_33.1 (by decide) (by decide) (off := 230) (tgt := 263) rfl (by decide) (qc_1 cx hl hi hL hroom h hR hk1)
    by_cases e2 : k = 2
    · subst e2
      exact lv_tableIn cx.1 cx.2.1 dl_33.1 (by decide) (by decide) (off := 263) (tgt := 296) rfl (by decide) (qc_2 cx hl hi hL hroom h hR hk1)
    by_cases e3 : k = 3
    · subst e3
      exact lv_tableIn cx.1 cx.2.1 dl_33.1 (by decide) (by decide) (off := 306) (tgt := 339) rfl (by decide) (qc_3 cx hl hi hL hroom h hR hk1)
    by_cases e4 : k = 4
    · subst e4
      exact lv_tableIn cx.1 cx.2.1 dl_33.1 (by decide) (by decide) (off := 339) (tgt := 372) rfl (by decide) (qc_4 cx hl hi hL hroom h hR hk1)
    by_cases e5 : k = 5
    · subst e5
      exact lv_tableIn cx.1 cx.2.1 dl_33.1 (by decide) (by decide) (off := 372) (tgt := 405) rfl (by decide) (qc_5 cx hl hi hL hroom h hR hk1)
    by_cases e6 : k = 6
    · subst e6
      exact lv_tableIn cx.1 cx.2.1 dl_33.1 (by decide) (by decide) (off := 385) (tgt := 418) rfl (by decide) (qc_6 cx hl hi hL hroom h hR hk1)
    by_cases e7 : k = 7
    · subst e7
      exact lv_tableIn cx.1 cx.2.1 dl_33.1 (by decide) (by decide) (off := 408) (tgt := 441) rfl (by decide) (qc_7 cx hl hi hL hroom h hR hk1)
    by_cases e8 : k = 8
    · subst e8
      exact lv_tableIn cx.1 cx.2.1 dl_33.1 (by decide) (by decide) (off := 431) (tgt := 464) rfl (by decide) (qc_8 cx hl hi hL hroom h hR hk1)
    by_cases e9 : k = 9
    · subst e9
      exact lv_tableIn cx.1 cx.2.1 dl_33.1 (by decide) (by decide) (off := 444) (tgt := 477) rfl (by decide) (qc_9 cx hl hi hL hroom h hR hk1)
    by_cases e10 : k = 10
    · subst e10
      exact lv_tableIn cx.1 cx.2.1 dl_33.1 (by decide) (by decide) (off := 507) (tgt := 540) rfl (by decide) (qc_10 cx hl hi hL hroom h hR hk1)
    by_cases e11 : k = 11
    · subst e11
      exact lv_tableIn cx.1 cx.2.1 dl_33.1 (by decide) (by decide) (off := 530) (tgt := 563) rfl (by decide) (qc_11 cx hl hi hL hroom h hR hk1)
    by_cases e12 : k = 12
    · subst e12
      exact lv_tableIn cx.1 cx.2.1 dl_33.1 (by decide) (by decide) (off := 553) (tgt := 586) rfl (by decide) (qc_12 cx hl hi hL hroom h hR hk1)
    by_cases e13 : k = 13
    · subst e13
      exact lv_tableIn cx.1 cx.2.1 dl_33.1 (by decide) (by decide) (off := 586) (tgt := 619) rfl (by decide) (qc_13 cx hl hi hL hroom h hR hk1)
    by_cases e14 : k = 14
    · subst e14
      exact lv_tableIn cx.1 cx.2.1 dl_33.1 (by decide) (by decide) (off := 609) (tgt := 642) rfl (by decide) (qc_14 cx hl hi hL hroom h hR hk1)
    by_cases e15 : k = 15
    · subst e15
      exact lv_tableIn cx.1 cx.2.1 dl_33.1 (by decide) (by decide) (off := 642) (tgt := 675) rfl (by decide) (qc_15 cx hl hi hL hroom h hR hk1)
    by_cases e16 : k = 16
    · subst e16
      exact lv_tableIn cx.1 cx.2.1 dl_33.1 (by decide) (by decide) (off := 685) (tgt := 718) rfl (by decide) (qc_16 cx hl hi hL hroom h hR hk1)
    by_cases e17 : k = 17
    · subst e17
      exact lv_tableIn cx.1 cx.2.1 dl_33.1 (by decide) (by decide) (off := 718) (tgt := 751) rfl (by decide) (qc_17 cx hl hi hL hroom h hR hk1)
    by_cases e18 : k = 18
    · subst e18
      exact lv_tableIn cx.1 cx.2.1 dl_33.1 (by decide) (by decide) (off := 751) (tgt := 784) rfl (by decide) (qc_18 cx hl hi hL hroom h hR hk1)
    by_cases e19 : k = 19
    · subst e19
      exact lv_tableIn cx.1 cx.2.1 dl_33.1 (by decide) (by decide) (off := 794) (tgt := 827) rfl (by decide) (qc_19 cx hl hi hL hroom h hR hk1)
    by_cases e20 : k = 20
    · subst e20
      exact lv_tableIn cx.1 cx.2.1 dl_33.1 (by decide) (by decide) (off := 837) (tgt := 870) rfl (by decide) (qc_20 cx hl hi hL hroom h hR hk1)
    by_cases e21 : k = 21
    · subst e21
      exact lv_tableIn cx.1 cx.2.1 dl_33.1 (by decide) (by decide) (off := 860) (tgt := 893) rfl (by decide) (qc_21 cx hl hi hL hroom h hR hk1)
    by_cases e22 : k = 22
    · subst e22
      exact lv_tableIn cx.1 cx.2.1 dl_33.1 (by decide) (by decide) (off := 883) (tgt := 916) rfl (by decide) (qc_22 cx hl hi hL hroom h hR hk1)
    by_cases e23 : k = 23
    · subst e23
      exact lv_tableIn cx.1 cx.2.1 dl_33.1 (by decide) (by decide) (off := 916) (tgt := 949) rfl (by decide) (qc_23 cx hl hi hL hroom h hR hk1)
    by_cases e24 : k = 24
    · subst e24
      exact lv_tableIn cx.1 cx.2.1 dl_33.1 (by decide) (by decide) (off := 949) (tgt := 982) rfl (by decide) (qc_24 cx hl hi hL hroom h hR hk1)
    by_cases e25 : k = 25
    · subst e25
      exact lv_tableIn cx.1 cx.2.1 dl_33.1 (by decide) (by decide) (off := 982) (tgt := 1015) rfl (by decide) (qc_25 cx hl hi hL hroom h hR hk1)
    by_cases e26 : k = 26
    · subst e26
      exact lv_tableIn cx.1 cx.2.1 dl_33.1 (by decide) (by decide) (off := 1025) (tgt := 1058) rfl (by decide) (qc_26 cx hl hi hL hroom h hR hk1)
    by_cases e27 : k = 27
    · subst e27
      exact lv_tableIn cx.1 cx.2.1 dl_33.1 (by decide) (by decide) (off := 1068) (tgt := 1101) rfl (by decide) (qc_27 cx hl hi hL hroom h hR hk1)
    by_cases e28 : k = 28
    · subst e28
      exact lv_tableIn cx.1 cx.2.1 dl_33.1 (by decide) (by decide) (off := 1101) (tgt := 1134) rfl (by decide) (qc_28 cx hl hi hL hroom h hR hk1)
    by_cases e29 : k = 29
    · subst e29
      exact lv_tableIn cx.1 cx.2.1 dl_33.1 (by decide) (by decide) (off := 1124) (tgt := 1157) rfl (by decide) (qc_29 cx hl hi hL hroom h hR hk1)
    by_cases e30 : k = 30
    · subst e30
      exact lv_tableIn cx.1 cx.2.1 dl_33.1 (by decide) (by decide) (off := 1147) (tgt := 1180) rfl (by decide) (qc_30 cx hl hi hL hroom h hR hk1)
    by_cases e31 : k = 31
    · subst e31
      exact lv_tableIn cx.1 cx.2.1 dl_33.1 (by decide) (by decide) (off := 1180) (tgt := 1213) rfl (by decide) (qc_31 cx hl hi hL hroom h hR hk1)
    by_cases e32 : k = 32
    · subst e32
      exact lv_tableIn cx.1 cx.2.1 dl_33.1 (by decide) (by decide) (off := 1193) (tgt := 1226) rfl (by decide) (qc_32 cx hl hi hL hroom h hR hk1)
    by_cases e33 : k = 33
    · subst e33
      exact lv_tableIn cx.1 cx.2.1 dl_33.1 (by decide) (by decide) (off := 1206) (tgt := 1239) rfl (by decide) (qc_33 cx hl hi hL hroom h hR hk1)
    by_cases e34 : k = 34
    · subst e34
      exact lv_tableIn cx.1 cx.2.1 dl_33.1 (by decide) (by decide) (off := 1229) (tgt := 1262) rfl (by decide) (qc_34 cx hl hi hL hroom h hR hk1)
    by_cases e35 : k = 35
    · subst e35
      exact lv_tableIn cx.1 cx.2.1 dl_33.1 (by decide) (by decide) (off := 1242) (tgt := 1275) rfl (by decide) (qc_35 cx hl hi hL hroom h hR hk1)
    by_cases e36 : k = 36
    · subst e36
      exact lv_tableIn cx.1 cx.2.1 dl_33.1 (by decide) (by decide) (off := 1265) (tgt := 1298) rfl (by decide) (qc_36 cx hl hi hL hroom h hR hk1)
    by_cases e37 : k = 37
    · subst e37
      exact lv_tableIn cx.1 cx.2.1 dl_33.1 (by decide) (by decide) (off := 1308) (tgt := 1341) rfl (by decide) (qc_37 cx hl hi hL hroom h hR hk1)
    by_cases e38 : k = 38
    · subst e38
      exact lv_tableIn cx.1 cx.2.1 dl_33.1 (by decide) (by decide) (off := 1331) (tgt := 1364) rfl (by decide) (qc_38 cx hl hi hL hroom h hR hk1)
    by_cases e39 : k = 39
    · subst e39
      exact lv_tableIn cx.1 cx.2.1 dl_33.1 (by decide) (by decide) (off := 1374) (tgt := 1407) rfl (by decide) (qc_39 cx hl hi hL hroom h hR hk1)
    by_cases e40 : k = 40
    · subst e40
      exact lv_tableIn cx.1 cx.2.1 dl_33.1 (by decide) (by decide) (off := 1417) (tgt := 1450) rfl (by decide) (qc_40 cx hl hi hL hroom h hR hk1)
    by_cases e41 : k = 41
    · subst e41
      exact lv_tableIn cx.1 cx.2.1 dl_33.1 (by decide) (by decide) (off := 1480) (tgt := 1513) rfl (by decide) (qc_41 cx hl hi hL hroom h hR hk1)
    by_cases e42 : k = 42
    · subst e42
      exact lv_tableIn cx.1 cx.2.1 dl_33.1 (by decide) (by decide) (off := 1503) (tgt := 1536) rfl (by decide) (qc_42 cx hl hi hL hroom h hR hk1)
    by_cases e43 : k = 43
    · subst e43
      exact lv_tableIn cx.1 cx.2.1 dl_33.1 (by decide) (by decide) (off := 1516) (tgt := 1549) rfl (by decide) (qc_43 cx hl hi hL hroom h hR hk1)
    by_cases e44 : k = 44
    · subst e44
      exact lv_tableIn cx.1 cx.2.1 dl_33.1 (by decide) (by decide) (off := 1529) (tgt := 1562) rfl (by decide) (qc_44 cx hl hi hL hroom h hR hk1)
    by_cases e45 : k = 45
    · subst e45
      exact lv_tableIn cx.1 cx.2.1 dl_33.1 (by decide) (by decide) (off := 1552) (tgt := 1585) rfl (by decide) (qc_45 cx hl hi hL hroom h hR hk1)
    by_cases e46 : k = 46
    · subst e46
      exact lv_tableIn cx.1 cx.2.1 dl_33.1 (by decide) (by decide) (off := 1575) (tgt := 1608) rfl (by decide) (qc_46 cx hl hi hL hroom h hR hk1)
    by_cases e47 : k = 47
    · subst e47
      exact lv_tableIn cx.1 cx.2.1 dl_33.1 (by decide) (by decide) (off := 1598) (tgt := 1631) rfl (by decide) (qc_47 cx hl hi hL hroom h hR hk1)
    refine lv_tableOut cx.1 cx.2.1 dl_33.1 (Or.inr ?_) (tgt := 1654) (by decide) (hk1 I J H locs h hR)
    rw [nI_toInt (by omega)]
    omega
end QL
theorem q_R0 : rR qI0 qJ0 := by
  have z : ∀ i : Nat, ¬ i < 0 := Nat.not_lt_zero
  refine ⟨⟨⟨0, 0, fun _ => 0, fun _ => 0, fun _ => 0, fun _ => 0, 0, fun _ => 0, fun _ => 0, fun _ => 0, fun _ => 0, fun _ _ => 0, 0, fun _ => 0, fun _ => 0, 0, fun _ => 0, fun _ => 0, fun _ => 0, 0, 0, fun _ => 0, fun _ => 0, ⟨?_, ?_, ?_⟩, ⟨?_, ?_, ?_⟩, ⟨?_, ?_, ?_⟩, ⟨?_, ?_, ?_⟩⟩, ⟨⟨none, trivial, ?_, ?_⟩, ⟨none, trivial, ?_, ?_⟩⟩, ⟨⟨0, fun _ => 0, by decide, by decide, by decide, fun k h => absurd h (z k)⟩, ⟨0, by decide, by decide, by decide, fun k h => absurd h (z k)⟩, by decide⟩⟩, ?_, ?_, by decide, Or.inl (by decide), ⟨0, by decide, by decide, by decide, fun k h => absurd h (z k)⟩⟩
  · exact ⟨by decide, by decide, fun i h => absurd h (z i), fun i h => absurd h (z i), fun j i h => absurd h (z j)⟩
  · refine ⟨by decide, by decide, fun i h => absurd h (z i), fun i h => absurd h (z i), fun e he => ?_⟩
    show qI0 6 e = -1
    unfold qI0
    rw [if_pos ⟨Or.inl rfl, he⟩]
  · exact ⟨by decide, by decide, fun i h => absurd h (z i), fun i h => absurd h (z i)⟩
  · exact ⟨by decide, fun i h => absurd h (z i)⟩
  · exact ⟨by decide, fun i h => absurd h (z i)⟩
  · exact ⟨by decide, fun i h => absurd h (z i)⟩
  · exact ⟨by decide, fun i h => absurd h (z i), by decide, fun i h => absurd h (z i)⟩
  · exact ⟨by decide, by decide, fun i h => absurd h (z i), fun i h => absurd h (z i)⟩
  · exact ⟨by decide, by decide, fun i h => absurd h (z i), fun i h => absurd h (z i)⟩
  · exact ⟨by decide, by decide +kernel, by decide, fun i h => absurd h (z i)⟩
  · exact ⟨by decide, by decide, fun i h => absurd h (z i)⟩
  · exact ⟨by decide, by decide, fun i h => absurd h (z i)⟩
  · show qI0 35 0 = 0
    decide
  · show qJ0 1 324 = 0
    decide
  · show qI0 40 0 = 0
    decide
  · show qJ0 1 386 = 0
    decide
  · intro s hs
    have e1 : ∀ k, qJ0 12 k = 0 := fun k => by unfold qJ0; rw [if_neg (by omega)]
    have e2 : ∀ k, qJ0 13 k = 0 := fun k => by unfold qJ0; rw [if_neg (by omega)]
    have e3 : ∀ k, qJ0 14 k = 0 := fun k => by unfold qJ0; rw [if_neg (by omega)]
    have e4 : ∀ a k, 94 ≤ a → qI0 a k = 0 := fun a k h => by unfold qI0; rw [if_neg (by omega), if_neg (by omega)]
    rw [e1, e2, e4 94 s (by omega), e4 95 s (by omega)]
    refine ⟨rfl, rfl, Or.inl rfl, ⟨0, by decide, rfl⟩, fun k hk => Or.inl ?_⟩
    rw [e3, e4 (97 + s) k (by omega)]
  · intro k hk
    have e1 : qJ0 3 k = 0 := by unfold qJ0; rw [if_neg (by omega)]
    have e4 : qI0 93 k = 0 := by unfold qI0; rw [if_neg (by omega), if_neg (by omega)]
    rw [e1, e4]
section QW
variable {p : Program} {l : Launch} {e : Env} {s : State} {m : MethodId} {below : List Frame} {meth : Method} {c : Code} {b L : Nat} {xs : Nat → Int32} {dC : Nat → ClassId} {dI : Nat → Nat → Nat} {cA : Nat → ClassId} {ad1 ad2 : Nat → Nat} {Q : State → Prop} {ls : Array Slot}
set_option maxHeartbeats 4000000 in
theorem q_walk {ad0 : Nat → Nat} (cx : qC p s m c b L xs) (hL : L ≤ 384) (hK : va_K (dC, dI) zCl (zTys cA) s) (hX : zX ad0 (qA s) s s.heap) (hl : lv_has ls 4 [(0, .ref b)]) (hend : ∀ (H : Heap) (ls : Array Slot), W p l e room_1 s m #[Value.ref b] below meth c H [] 600000 7302250 Q (F0 m 1661 ls [.int 1])) : W p l e room_1 s m #[Value.ref b] below meth c s.heap [] 0 0 Q (F0 m 0 ls []) := by
  have hnil : ∀ ad : Nat → Nat, va_P (dC, dI) zCl (zW ad cA ([], fun _ _ => none, fun _ _ => 0)) s.heap ∧ va_D (qA s) (zW ad cA ([], fun _ _ => none, fun _ _ => 0)) := fun ad => ⟨fun k q h => by simp [zW] at h, ⟨fun i j p q h => by simp [zW] at h, fun k q h => by simp [zW] at h⟩⟩
  have h0 : qH dC dI cA ad0 ([], fun _ _ => none, fun _ _ => 0) ad0 ([], fun _ _ => none, fun _ _ => 0) s s.heap [] := ⟨hK, ⟨(hnil ad0).1, (hnil ad0).2, hX, by simp⟩, ⟨(hnil ad0).1, (hnil ad0).2, hX, by simp⟩, fun i j hi => absurd hi (Nat.not_lt_zero i), va_S.rf⟩
  refine q_new cx h0 q_F0 dl_0 zcl_11 qw_22 ⟨qw_23, zw_1⟩ (by decide) (fun ad1 H1 h1 => ?_)
  refine lv_dup cx.1 cx.2.1 dl_3.1 rfl ?_
  refine q_init (st := [.ref (ad1 0)]) cx h1.swap hl.1 dl_4 cai_11 ⟨rfl, rfl⟩ qw_24 qw_25 (ci_11 (sh := []) (R := fun _ _ => none) (I := fun _ _ => 0) (n := 0) rfl (by decide) (q_F0.up (by decide))) ⟨by decide, by decide⟩ (Nat.le_of_ble_eq_true rfl) (by decide) (fun ad2 H2 locs2 hE2 h2 => ?_)
  have g1 : ad2 0 = ad1 0 := hE2.2.2 0 (Or.inl (by decide))
  rw [← g1]
  have h2 : qH dC dI cA ad2 (zL_11, zR_11 0 (fun _ _ => none), zI_11 0 (fun _ _ => 0)) ad0 ([], fun _ _ => none, fun _ _ => 0) s H2 locs2 := h2
  rw [q_sC] at h2
  have h2 := qH_cg q_cC h2
  refine lv_astore_n (lv' := [(1, .ref (ad2 0)), (0, .ref b)]) cx.1 cx.2.1 dl_7.1 rfl hl (by decide) rfl (fun ls2 hl2 => ?_)
  refine q_new cx h2 q_F0 dl_8 zcl_12 qw_1024 ⟨qw_1025, zw_14⟩ (by decide) (fun ad3 H3 h3 => ?_)
  refine lv_dup cx.1 cx.2.1 dl_11.1 rfl ?_
  refine q_init (st := [.ref (ad3 0)]) cx h3.swap hl2.1 dl_12 cai_12 ⟨rfl, rfl⟩ qw_1026 qw_1027 (ci_12 (sh := []) (R := fun _ _ => none) (I := fun _ _ => 0) (n := 0) rfl (by decide) (q_F0.up (by decide))) ⟨by decide, by decide⟩ (Nat.le_of_ble_eq_true rfl) (by decide) (fun ad4 H4 locs4 hE4 h4 => ?_)
  have g2 : ad4 0 = ad3 0 := hE4.2.2 0 (Or.inl (by decide))
  rw [← g2]
  have h4 : qH dC dI cA ad4 (zL_12, zR_12 0 (fun _ _ => none), zI_12 0 (fun _ _ => 0)) ad2 (zCs, zCr, qI0) s H4 locs4 := h4
  rw [q_sM] at h4
  have h4 := (qH_cg q_cM h4).swap
  refine lv_astore_n (lv' := [(2, .ref (ad4 0)), (1, .ref (ad2 0)), (0, .ref b)]) cx.1 cx.2.1 dl_15.1 rfl hl2 (by decide) rfl (fun ls3 hl3 => ?_)
  refine lv_iconst cx.1 cx.2.1 dl_16.1 (v := nI 0) (by decide) ?_
  refine lv_istore_n (lv' := [(3, .int (nI 0)), (2, .ref (ad4 0)), (1, .ref (ad2 0)), (0, .ref b)]) cx.1 cx.2.1 dl_17.1 rfl hl3 (by decide) rfl (fun ls4 hl4 => ?_)
  exact q_loop cx hL (by decide) hend 66 0 qI0 qJ0 H4 locs4 ls4 (by decide) (by omega) (lv_sub hl4 [0, 3, 2, 1] rfl) h4 q_R0
end QW
