/-! crossing an edge -/
def zcr (nj : Nat) (cs ea eb tt : Nat → Nat) (t : Option (List (Nat × Nat))) (p e : Nat) : Option (Nat × Nat) :=
  (jn ea eb nj (4 * (p / 2) + e)).map fun j => (2 * ((if ea j = 4 * (p / 2) + e then eb j else ea j) / 4) + (p % 2 ^^^ tt j), zhr t (cs (p / 2)) (cs ((if ea j = 4 * (p / 2) + e then eb j else ea j) / 4)) (p % 2) (tt j))
def wT (ns : Nat) (T : Nat → Nat → Option (Nat × Nat)) : Prop := ns ≤ 8 ∧ ∀ p e q, p < 2 * ns → e < 4 → T p e = some q → q.1 < 2 * ns ∧ 1 ≤ q.2 ∧ q.2 ≤ 999
def cT (I : zI) (ns : Nat) (T : Nat → Nat → Option (Nat × Nat)) : Prop := I 2 0 = nI ns ∧ ∀ V : zI, (∀ c k, (2 ≤ c ∧ c ≤ 6 ∨ 35 ≤ c ∧ c ≤ 37) → V c k = I c k) → ∀ p e, p < 2 * ns → e < 4 → fc_Ground_comesTo V (nI p) (nI e) = some (match T p e with
    | none => -1
    | some q => nI q.1) ∧ ∃ V', fc_World_hours V (nI p) (nI e) = some (match T p e with
    | none => 0
    | some q => nI q.2, V') ∧ ∀ c k, c ≠ 38 → c ≠ 39 → V' c k = V c k
def mT (J : zI) (ns : Nat) (T : Nat → Nat → Option (Nat × Nat)) : Prop := J 1 0 = nI ns ∧ ∀ V : zI, (∀ k, k < 448 → V 1 k = J 1 k) → ∀ p e, p < 2 * ns → e < 4 → ∃ V', fm_crosses V (nI p) (nI e) = some (match T p e with
    | none => 0
    | some _ => 1, V') ∧ (∀ q, T p e = some q → V' 0 14 = nI q.1 ∧ V' 0 15 = nI q.2) ∧ (T p e = none → V' = V) ∧ ∀ c k, c ≠ 7 → c ≠ 8 → ¬ (c = 0 ∧ (k = 14 ∨ k = 15)) → V' c k = V c k
theorem zxor01 {a s : Nat} (ha : a < 2) (hs : s < 2) : a ^^^ s < 2 := Nat.xor_lt_two_pow (n := 1) ha hs
theorem mk_wT {ns nj : Nat} {cs ea eb tt : Nat → Nat} (hw : wfG ns nj cs ea eb tt) (t : Option (List (Nat × Nat))) : wT ns (zcr nj cs ea eb tt t) := by
  refine ⟨hw.1, fun p e q hp he hq => ?_⟩
  unfold zcr at hq
  cases hj : jn ea eb nj (4 * (p / 2) + e) with
  | none => rw [hj] at hq; cases hq
  | some j =>
    rw [hj] at hq
    obtain ⟨j1, j2⟩ := jn_some hj
    obtain ⟨b1, b2, b3, b4⟩ := hw.2.2.2.1 j j1
    have x := zxor01 (a := p % 2) (by omega) b4
    have hh := hw.2.2.1 (p / 2) (by omega)
    cases hq
    refine ⟨?_, zhr_b hh.1 hh.2⟩
    simp only
    split <;> omega
theorem mk_cT {I : zI} {ns nj : Nat} {cs ea eb tt : Nat → Nat} {t : Option (List (Nat × Nat))} (hw : wfG ns nj cs ea eb tt) (hg : gC I ns nj cs ea eb tt) (t1 : wfT 4 t) (t2 : tC I 35 t) : cT I ns (zcr nj cs ea eb tt t) := by
  refine ⟨hg.1, fun V hV p e hp he => ?_⟩
  have g2 : gC V ns nj cs ea eb tt := gC_cg hg (fun c k h1 h2 => hV c k (by omega))
  have t2 : tC V 35 t := tC_cg t2 (fun c k h1 h2 => hV c k (by omega))
  have hns := hw.1
  have hnj := hw.2.1
  have ho := c_otherEdge hw g2 (e := 4 * (p / 2) + e) (by omega)
  obtain ⟨c1, c2, c3, c4, c5⟩ := g2
  have key : fc_Ground_comesTo V (nI p) (nI e) = some (match zcr nj cs ea eb tt t p e with
    | none => -1
    | some q => nI q.1) := by
    unfold fc_Ground_comesTo
    simp (disch := omega) only [k_0, k_1, k_2, k_3, k_4, k_5, k_6, k_7, k_8, k_9, k_10, k_11, k_12, k_13, k_14, k_15, k_16, k_17, k_18, k_19, k_20, k_21, k_22, k_23, k_24, k_25, k_26, k_27, k_28, k_30, k_31, k_32, k_33, k_37, k_38, k_40, k_41, k_42, k_43, k_45, k_47, k_48, k_50, k_57, k_60, k_61, k_62, k_63, k_66, k_70, k_71, k_99, k_124, k_128, k_186, k_198, k_216, k_240, k_255, k_256, k_300, k_324, k_448, k_999, k_9999, k_10000, k_12345, k_20000, k_20001, k_20002, k_20003, k_20004, k_20005, k_20006, k_20007, k_20008, k_20009, k_20010, k_999999, k_100000000, k_m1, zl_add, zl_mul, zl_sub, zl_div, zl_mod, zl_lt, zl_le, zl_eq, zl_cl, zl_b, zm1_eq, zm1_eq2, zm1_lt, zm1_nlt, zm1_le, zm1_nle, z_guard, Option.bind_some, if_true, if_false, decide_true, ho]
    unfold oe zcr
    cases hj : jn ea eb nj (4 * (p / 2) + e) with
    | none => simp only [jv, Option.map_none]; rfl
    | some j =>
      obtain ⟨j1, j2⟩ := jn_some hj
      obtain ⟨b1, b2, b3, b4⟩ := hw.2.2.2.1 j j1
      obtain ⟨d1, d2, d3⟩ := c4 j j1
      have h6 := c5 (4 * (p / 2) + e) (by omega)
      rw [hj] at h6
      have hO : (if ea j = 4 * (p / 2) + e then eb j else ea j) < 32 := by split <;> omega
      simp only [Option.map_some]
      generalize (if ea j = 4 * (p / 2) + e then eb j else ea j) = O at hO ⊢
      simp (disch := omega) only [jv, k_0, k_1, k_2, k_3, k_4, k_5, k_6, k_7, k_8, k_9, k_10, k_11, k_12, k_13, k_14, k_15, k_16, k_17, k_18, k_19, k_20, k_21, k_22, k_23, k_24, k_25, k_26, k_27, k_28, k_30, k_31, k_32, k_33, k_37, k_38, k_40, k_41, k_42, k_43, k_45, k_47, k_48, k_50, k_57, k_60, k_61, k_62, k_63, k_66, k_70, k_71, k_99, k_124, k_128, k_186, k_198, k_216, k_240, k_255, k_256, k_300, k_324, k_448, k_999, k_9999, k_10000, k_12345, k_20000, k_20001, k_20002, k_20003, k_20004, k_20005, k_20006, k_20007, k_20008, k_20009, k_20010, k_999999, k_100000000, k_m1, zl_add, zl_mul, zl_sub, zl_div, zl_mod, zl_lt, zl_le, zl_eq, zl_cl, zl_b, zm1_eq, zm1_eq2, zm1_lt, zm1_nlt, zm1_le, zm1_nle, z_guard, Option.bind_some, if_true, if_false, decide_true, show 4 * (p / 2) + e < 32 by omega, h6, show j < 16 by omega, d3, zl_xor]
  refine ⟨key, ?_⟩
  unfold fc_World_hours
  rw [key]
  unfold zcr
  cases hj : jn ea eb nj (4 * (p / 2) + e) with
  | none => exact ⟨V, by simp only [Option.map_none, Option.bind_some, if_true], fun _ _ _ _ => rfl⟩
  | some j =>
    obtain ⟨j1, j2⟩ := jn_some hj
    obtain ⟨b1, b2, b3, b4⟩ := hw.2.2.2.1 j j1
    have hO : (if ea j = 4 * (p / 2) + e then eb j else ea j) < 4 * ns := by split <;> omega
    simp only [Option.map_some]
    generalize (if ea j = 4 * (p / 2) + e then eb j else ea j) = O at hO ⊢
    have x := zxor01 (a := p % 2) (by omega) b4
    have hO4 : O / 4 < ns := by omega
    have hp2 : p / 2 < ns := by omega
    have hh := hw.2.2.1 (p / 2) hp2
    have hh2 := hw.2.2.1 (O / 4) hO4
    have e1 : (2 * (O / 4) + (p % 2 ^^^ tt j)) / 2 = O / 4 := by omega
    have e2 : (p ^^^ (2 * (O / 4) + (p % 2 ^^^ tt j))) &&& 1 = tt j := by
      rw [Nat.and_one_is_mod, show 2 = 2 ^ 1 from rfl, Nat.xor_mod_two_pow, show 2 ^ 1 = 2 from rfl, Nat.mul_add_mod, Nat.mod_eq_of_lt x, ← Nat.xor_assoc, Nat.xor_self, Nat.zero_xor]
    simp (disch := omega) only [Option.map_some, k_0, k_1, k_2, k_3, k_4, k_5, k_6, k_7, k_8, k_9, k_10, k_11, k_12, k_13, k_14, k_15, k_16, k_17, k_18, k_19, k_20, k_21, k_22, k_23, k_24, k_25, k_26, k_27, k_28, k_30, k_31, k_32, k_33, k_37, k_38, k_40, k_41, k_42, k_43, k_45, k_47, k_48, k_50, k_57, k_60, k_61, k_62, k_63, k_66, k_70, k_71, k_99, k_124, k_128, k_186, k_198, k_216, k_240, k_255, k_256, k_300, k_324, k_448, k_999, k_9999, k_10000, k_12345, k_20000, k_20001, k_20002, k_20003, k_20004, k_20005, k_20006, k_20007, k_20008, k_20009, k_20010, k_999999, k_100000000, k_m1, zl_add, zl_mul, zl_sub, zl_div, zl_mod, zl_lt, zl_le, zl_eq, zl_cl, zl_b, zm1_eq, zm1_eq2, zm1_lt, zm1_nlt, zm1_le, zm1_nle, z_guard, Option.bind_some, if_true, if_false, decide_true, show p / 2 < 8 by omega]
    cases t with
    | none =>
      have h3 : V 35 0 = nI 0 := t2
      refine ⟨V, ?_, fun _ _ _ _ => rfl⟩
      rw [h3, if_pos rfl, c3 _ hp2]; rfl
    | some l =>
      have hw2 : l.length ≤ 60 ∧ zdep 4 l = some 1 := t1
      have h3 : V 35 0 = nI 1 := t2.1
      obtain ⟨V', f1, f2⟩ := c_work (V := V) (nn := 4) (by omega) hw2.1 ⟨1, hw2.2⟩ t2 (nI (cs (p / 2))) (nI (cs (O / 4))) (nI (p % 2)) (nI (tt j))
      rw [show (fun i => if i = 0 then nI (cs (p / 2)) else if i = 1 then nI (cs (O / 4)) else if i = 2 then nI (p % 2) else nI (tt j)) = znm (cs (p / 2)) (cs (O / 4)) (p % 2) (tt j) from znm_w _ _ _ _] at f1
      refine ⟨V', ?_, f2⟩
      simp (disch := omega) only [h3, k_0, k_1, k_2, k_3, k_4, k_5, k_6, k_7, k_8, k_9, k_10, k_11, k_12, k_13, k_14, k_15, k_16, k_17, k_18, k_19, k_20, k_21, k_22, k_23, k_24, k_25, k_26, k_27, k_28, k_30, k_31, k_32, k_33, k_37, k_38, k_40, k_41, k_42, k_43, k_45, k_47, k_48, k_50, k_57, k_60, k_61, k_62, k_63, k_66, k_70, k_71, k_99, k_124, k_128, k_186, k_198, k_216, k_240, k_255, k_256, k_300, k_324, k_448, k_999, k_9999, k_10000, k_12345, k_20000, k_20001, k_20002, k_20003, k_20004, k_20005, k_20006, k_20007, k_20008, k_20009, k_20010, k_999999, k_100000000, k_m1, zl_add, zl_mul, zl_sub, zl_div, zl_mod, zl_lt, zl_le, zl_eq, zl_cl, zl_b, zm1_eq, zm1_eq2, zm1_lt, zm1_nlt, zm1_le, zm1_nle, z_guard, Option.bind_some, if_true, if_false, decide_true, show ¬ 1 = 0 by omega, e1, show O / 4 < 8 by omega, c3 _ hp2, c3 _ hO4, zl_xor, zl_and, e2, f1]
      unfold fc_T_held
      simp only [Option.bind_some, zhr]
      rw [(zheld_i (by omega) (by omega) _).1]; rfl
theorem mk_mT {J : zI} {ns nj : Nat} {cs ea eb tt : Nat → Nat} {t : Option (List (Nat × Nat))} (hw : wfG ns nj cs ea eb tt) (hg : gM (J 1) ns nj cs ea eb tt) (t1 : wfT 4 t) (t2 : tM (J 1) 324 t) : mT J ns (zcr nj cs ea eb tt t) := by
  refine ⟨hg.1, fun V hV p e hp he => ?_⟩
  have hns := hw.1
  have hnj := hw.2.1
  have g3 : gM (V 1) ns nj cs ea eb tt := gM_cg ⟨hns, hnj⟩ hg (fun k hk => hV k (by omega))
  have t2 : tM (V 1) 324 t := tM_cg t1 t2 (fun k h1 h2 => hV k (by omega))
  have ho := m_joinAt hw g3 (e := 4 * (p / 2) + e) (by omega)
  unfold fm_crosses
  simp (disch := omega) only [k_0, k_1, k_2, k_3, k_4, k_5, k_6, k_7, k_8, k_9, k_10, k_11, k_12, k_13, k_14, k_15, k_16, k_17, k_18, k_19, k_20, k_21, k_22, k_23, k_24, k_25, k_26, k_27, k_28, k_30, k_31, k_32, k_33, k_37, k_38, k_40, k_41, k_42, k_43, k_45, k_47, k_48, k_50, k_57, k_60, k_61, k_62, k_63, k_66, k_70, k_71, k_99, k_124, k_128, k_186, k_198, k_216, k_240, k_255, k_256, k_300, k_324, k_448, k_999, k_9999, k_10000, k_12345, k_20000, k_20001, k_20002, k_20003, k_20004, k_20005, k_20006, k_20007, k_20008, k_20009, k_20010, k_999999, k_100000000, k_m1, zl_add, zl_mul, zl_sub, zl_div, zl_mod, zl_lt, zl_le, zl_eq, zl_cl, zl_b, zm1_eq, zm1_eq2, zm1_lt, zm1_nlt, zm1_le, zm1_nle, z_guard, Option.bind_some, if_true, if_false, decide_true, ho]
  unfold zcr
  cases hj : jn ea eb nj (4 * (p / 2) + e) with
  | none => exact ⟨V, rfl, fun q hq => (by cases hq), fun _ => rfl, fun _ _ _ _ _ => rfl⟩
  | some j =>
    obtain ⟨j1, j2⟩ := jn_some hj
    obtain ⟨b1, b2, b3, b4⟩ := hw.2.2.2.1 j j1
    have hm := m_otherOf hw g3 (e := 4 * (p / 2) + e) (by omega) j1
    obtain ⟨m1, m2, m3, m4⟩ := g3
    obtain ⟨d1, d2, d3⟩ := m4 j j1
    have hO : (if ea j = 4 * (p / 2) + e then eb j else ea j) < 4 * ns := by split <;> omega
    simp only [Option.map_some]
    generalize (if ea j = 4 * (p / 2) + e then eb j else ea j) = O at hO hm ⊢
    have x := zxor01 (a := p % 2) (by omega) b4
    have hO4 : O / 4 < ns := by omega
    have hp2 : p / 2 < ns := by omega
    have hh := hw.2.2.1 (p / 2) hp2
    have hh2 := hw.2.2.1 (O / 4) hO4
    simp (disch := omega) only [jv, Option.map_some, k_0, k_1, k_2, k_3, k_4, k_5, k_6, k_7, k_8, k_9, k_10, k_11, k_12, k_13, k_14, k_15, k_16, k_17, k_18, k_19, k_20, k_21, k_22, k_23, k_24, k_25, k_26, k_27, k_28, k_30, k_31, k_32, k_33, k_37, k_38, k_40, k_41, k_42, k_43, k_45, k_47, k_48, k_50, k_57, k_60, k_61, k_62, k_63, k_66, k_70, k_71, k_99, k_124, k_128, k_186, k_198, k_216, k_240, k_255, k_256, k_300, k_324, k_448, k_999, k_9999, k_10000, k_12345, k_20000, k_20001, k_20002, k_20003, k_20004, k_20005, k_20006, k_20007, k_20008, k_20009, k_20010, k_999999, k_100000000, k_m1, zl_add, zl_mul, zl_sub, zl_div, zl_mod, zl_lt, zl_le, zl_eq, zl_cl, zl_b, zm1_eq, zm1_eq2, zm1_lt, zm1_nlt, zm1_le, zm1_nle, z_guard, Option.bind_some, if_true, if_false, decide_true, Nat.zero_le, hm, m_joinOf, d3, show 10 + p / 2 < 448 by omega, show 10 + O / 4 < 448 by omega, zl_xor]
    obtain ⟨V', f1, f2⟩ := m_given (V := zup V 0 14 (nI (2 * (O / 4) + (p % 2 ^^^ tt j)))) (u := 0) (a := cs (p / 2)) (b := cs (O / 4)) (c := p % 2) (d := tt j) (by omega) (Nat.le_refl 4) t1 (by (unfold zup; repeat (first | rw [if_neg (by omega)] | rw [if_pos (by omega)])); exact t2) (by omega) (by omega) (by omega) b4 (fun _ => by omega) (fun h => by omega)
    have k1 : zup V 0 14 (nI (2 * (O / 4) + (p % 2 ^^^ tt j))) 1 (10 + p / 2) = nI (cs (p / 2)) := by (unfold zup; repeat (first | rw [if_neg (by omega)] | rw [if_pos (by omega)])); exact m3 _ hp2
    have k2 : zup V 0 14 (nI (2 * (O / 4) + (p % 2 ^^^ tt j))) 1 (10 + O / 4) = nI (cs (O / 4)) := by (unfold zup; repeat (first | rw [if_neg (by omega)] | rw [if_pos (by omega)])); exact m3 _ hO4
    rw [if_pos rfl] at f1
    rw [m3 _ hp2, m3 _ hO4, f1]
    refine ⟨zup V' 0 15 _, rfl, fun q hq => ?_, fun h => (by cases h), fun c k h1 h2 h3 => ?_⟩
    · cases hq
      refine ⟨?_, zup_y⟩
      rw [zup_o (by omega), f2 _ _ (by omega) (by omega), zup_y]
    · rw [zup_o (by omega), f2 _ _ h1 h2, zup_o (by omega)]
theorem cT_cg {I I' : zI} {ns : Nat} {T : Nat → Nat → Option (Nat × Nat)} (h : cT I ns T) (e : ∀ c k, (2 ≤ c ∧ c ≤ 6 ∨ 35 ≤ c ∧ c ≤ 37) → I' c k = I c k) : cT I' ns T :=
  ⟨by rw [e 2 0 (by omega)]; exact h.1, fun V hV p q hp hq => h.2 V (fun c k hc => by rw [hV c k hc, e c k hc]) p q hp hq⟩
theorem mT_cg {J J' : zI} {ns : Nat} {T : Nat → Nat → Option (Nat × Nat)} (h : mT J ns T) (e : ∀ k, k < 448 → J' 1 k = J 1 k) : mT J' ns T :=
  ⟨by rw [e 0 (by omega)]; exact h.1, fun V hV p q hp hq => h.2 V (fun k hk => by rw [hV k hk, e k hk]) p q hp hq⟩
