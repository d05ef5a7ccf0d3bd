/-! the reference's way of working a text out; hours and prices -/
theorem m_work_L {nn c : Nat} {nm : Nat → Int32} {l : List (Nat × Nat)} (hc : c + 62 ≤ 448) (hnn : nn ≤ 4) (hl : l.length ≤ 60) (hdl : zdep nn l = some 1) : ∀ (m k fuel : Nat) (V : zI), k + m = l.length → m < fuel → V 1 c = nI l.length → (∀ k, k < l.length → V 1 (c + 1 + k) = nI (zop (l.reverse.getD k (0, 0)))) → (∀ i, i < nn → V 7 i = nm i) → zpile (V 8) (zst nm (l.drop m)) → ∃ V', fm_worked_L4 fuel (nI (c + 1)) (nI (zst nm (l.drop m)).length) (nI (c + 1 + k)) V = some ((zst nm l).headD 0, V') ∧ ∀ c j, c ≠ 8 → V' c j = V c j := by
  intro m
  induction m with
  | zero =>
    intro k fuel V hk hf h1 h2 h3 h4
    obtain ⟨f, rfl⟩ : ∃ f, fuel = f + 1 := ⟨fuel - 1, by omega⟩
    have hk2 : k = l.length := by omega
    rw [fm_worked_L4]
    rw [List.drop_zero] at h4 ⊢
    have hlen := zst_len (nm := nm) hdl
    simp (disch := omega) only [k_0, k_1, k_2, k_3, k_4, k_5, k_6, k_7, k_8, k_9, k_10, k_11, k_12, k_13, k_14, k_15, k_16, k_17, k_18, k_19, k_20, k_21, k_22, k_23, k_24, k_25, k_26, k_27, k_28, k_30, k_31, k_32, k_33, k_37, k_38, k_40, k_41, k_42, k_43, k_45, k_47, k_48, k_50, k_57, k_60, k_61, k_62, k_63, k_66, k_70, k_71, k_99, k_124, k_128, k_186, k_198, k_216, k_240, k_255, k_256, k_300, k_324, k_448, k_999, k_9999, k_10000, k_12345, k_20000, k_20001, k_20002, k_20003, k_20004, k_20005, k_20006, k_20007, k_20008, k_20009, k_20010, k_999999, k_100000000, k_m1, zl_add, zl_mul, zl_sub, zl_div, zl_mod, zl_lt, zl_le, zl_eq, zl_cl, zl_b, zm1_eq, zm1_eq2, zm1_lt, zm1_nlt, zm1_le, zm1_nle, z_guard, Option.bind_some, if_true, if_false, decide_true, Nat.add_sub_cancel, show c < 448 by omega, h1, hk2, Nat.le_refl]
    match hs : zst nm l with
    | [] => rw [hs] at hlen; simp at hlen
    | [x] =>
      rw [hs] at h4
      exact ⟨V, by rw [show V 8 0 = x from (zpile_top h4).1]; rfl, fun _ _ _ => rfl⟩
    | x :: y :: s => rw [hs] at hlen; simp at hlen
  | succ m ih =>
    intro k fuel V hk hf h1 h2 h3 h4
    obtain ⟨f, rfl⟩ : ∃ f, fuel = f + 1 := ⟨fuel - 1, by omega⟩
    have hdr := zdrop1 (z := (0, 0)) hk
    obtain ⟨d, hd⟩ := zdep_drop m hdl
    have hd2 := zdep_le hd
    rw [List.length_drop] at hd2
    rw [hdr] at hd
    obtain ⟨e, he, hq⟩ := zdep_tl hd
    have he2 := zdep_le he
    rw [List.length_drop] at he2
    have hlen := zst_len (nm := nm) he
    have t1 := h2 k (by omega)
    generalize hq0 : l.reverse.getD k (0, 0) = q at *
    have hst : zst nm (l.drop m) = zst nm (q :: l.drop (m + 1)) := by rw [hdr]
    rw [zst] at hst
    have hnext : ∀ (V2 : zI), (∀ c j, c ≠ 8 → V2 c j = V c j) → zpile (V2 8) (zst nm (l.drop m)) → ∃ V', fm_worked_L4 f (nI (c + 1)) (nI (zst nm (l.drop m)).length) (nI (c + 1 + k + 1)) V2 = some ((zst nm l).headD 0, V') ∧ ∀ c j, c ≠ 8 → V' c j = V c j := fun V2 e1 e2 => by
      obtain ⟨V', f1, f2⟩ := ih (k + 1) f V2 (by omega) (by omega) (by rw [e1 _ _ (by omega)]; exact h1) (fun k hk => by rw [e1 _ _ (by omega)]; exact h2 k hk) (fun i hi => by rw [e1 _ _ (by omega)]; exact h3 i hi) e2
      exact ⟨V', f1, fun c j hc => by rw [f2 c j hc, e1 c j hc]⟩
    rw [fm_worked_L4]
    simp (disch := omega) only [k_0, k_1, k_2, k_3, k_4, k_5, k_6, k_7, k_8, k_9, k_10, k_11, k_12, k_13, k_14, k_15, k_16, k_17, k_18, k_19, k_20, k_21, k_22, k_23, k_24, k_25, k_26, k_27, k_28, k_30, k_31, k_32, k_33, k_37, k_38, k_40, k_41, k_42, k_43, k_45, k_47, k_48, k_50, k_57, k_60, k_61, k_62, k_63, k_66, k_70, k_71, k_99, k_124, k_128, k_186, k_198, k_216, k_240, k_255, k_256, k_300, k_324, k_448, k_999, k_9999, k_10000, k_12345, k_20000, k_20001, k_20002, k_20003, k_20004, k_20005, k_20006, k_20007, k_20008, k_20009, k_20010, k_999999, k_100000000, k_m1, zl_add, zl_mul, zl_sub, zl_div, zl_mod, zl_lt, zl_le, zl_eq, zl_cl, zl_b, zm1_eq, zm1_eq2, zm1_lt, zm1_nlt, zm1_le, zm1_nle, z_guard, Option.bind_some, if_true, if_false, decide_true, Nat.add_sub_cancel, show c < 448 by omega, h1, show ¬ c + 1 + l.length ≤ c + 1 + k by omega, show c + 1 + k < 448 by omega, t1]
    rcases hq with ⟨a, b, c⟩ | ⟨a, b, c⟩ | ⟨a, b, c⟩ | ⟨a, b1, b2, b3, b, c⟩
    · rw [if_pos a] at hst
      have hz : zop q = q.2 := by
        obtain ⟨o, v⟩ := q
        simp only at a
        subst a; rfl
      rw [hz]
      simp (disch := omega) only [k_0, k_1, k_2, k_3, k_4, k_5, k_6, k_7, k_8, k_9, k_10, k_11, k_12, k_13, k_14, k_15, k_16, k_17, k_18, k_19, k_20, k_21, k_22, k_23, k_24, k_25, k_26, k_27, k_28, k_30, k_31, k_32, k_33, k_37, k_38, k_40, k_41, k_42, k_43, k_45, k_47, k_48, k_50, k_57, k_60, k_61, k_62, k_63, k_66, k_70, k_71, k_99, k_124, k_128, k_186, k_198, k_216, k_240, k_255, k_256, k_300, k_324, k_448, k_999, k_9999, k_10000, k_12345, k_20000, k_20001, k_20002, k_20003, k_20004, k_20005, k_20006, k_20007, k_20008, k_20009, k_20010, k_999999, k_100000000, k_m1, zl_add, zl_mul, zl_sub, zl_div, zl_mod, zl_lt, zl_le, zl_eq, zl_cl, zl_b, zm1_eq, zm1_eq2, zm1_lt, zm1_nlt, zm1_le, zm1_nle, z_guard, Option.bind_some, if_true, if_false, decide_true, show ¬ 20000 ≤ q.2 by omega, show ¬ 10000 ≤ q.2 by omega, hlen, show e < 60 by omega]
      have := hnext (zup V 8 e (nI q.2)) (fun c j hc => zup_o (by omega)) (by rw [hst]; exact zpile_cons h4 hlen.symm ⟨zup_y, fun i hi => zup_o (by omega)⟩)
      rw [hst, List.length_cons, hlen] at this
      exact this
    · rw [if_neg (by omega), if_pos a] at hst
      have hz : zop q = 10000 + q.2 := by
        obtain ⟨o, v⟩ := q
        simp only at a
        subst a; rfl
      rw [hz]
      simp (disch := omega) only [k_0, k_1, k_2, k_3, k_4, k_5, k_6, k_7, k_8, k_9, k_10, k_11, k_12, k_13, k_14, k_15, k_16, k_17, k_18, k_19, k_20, k_21, k_22, k_23, k_24, k_25, k_26, k_27, k_28, k_30, k_31, k_32, k_33, k_37, k_38, k_40, k_41, k_42, k_43, k_45, k_47, k_48, k_50, k_57, k_60, k_61, k_62, k_63, k_66, k_70, k_71, k_99, k_124, k_128, k_186, k_198, k_216, k_240, k_255, k_256, k_300, k_324, k_448, k_999, k_9999, k_10000, k_12345, k_20000, k_20001, k_20002, k_20003, k_20004, k_20005, k_20006, k_20007, k_20008, k_20009, k_20010, k_999999, k_100000000, k_m1, zl_add, zl_mul, zl_sub, zl_div, zl_mod, zl_lt, zl_le, zl_eq, zl_cl, zl_b, zm1_eq, zm1_eq2, zm1_lt, zm1_nlt, zm1_le, zm1_nle, z_guard, Option.bind_some, if_true, if_false, decide_true, show ¬ 20000 ≤ 10000 + q.2 by omega, show 10000 ≤ 10000 + q.2 by omega, hlen, show e < 60 by omega, Nat.add_sub_cancel_left, show q.2 < 4 by omega, h3 q.2 b]
      have := hnext (zup V 8 e (nm q.2)) (fun c j hc => zup_o (by omega)) (by rw [hst]; exact zpile_cons h4 hlen.symm ⟨zup_y, fun i hi => zup_o (by omega)⟩)
      rw [hst, List.length_cons, hlen] at this
      exact this
    · rw [if_neg (by omega), if_neg (by omega), if_pos a] at hst
      have hz : zop q = 20010 := by
        obtain ⟨o, v⟩ := q
        simp only at a
        subst a; rfl
      rw [hz]
      cases hs : zst nm (l.drop (m + 1)) with
      | nil => rw [hs] at hlen; simp at hlen; omega
      | cons x s =>
        rw [hs] at hst h4 hlen
        simp only at hst
        rw [List.length_cons] at hlen
        obtain ⟨h5, h6⟩ := zpile_top h4
        have := hnext (zup V 8 s.length (if x = 0 then 1 else 0)) (fun c j hc => zup_o (by omega)) (by rw [hst]; exact zpile_cons h6 rfl ⟨zup_y, fun i hi => zup_o (by omega)⟩)
        rw [hst, List.length_cons] at this
        simp (disch := omega) only [List.length_cons, k_0, k_1, k_2, k_3, k_4, k_5, k_6, k_7, k_8, k_9, k_10, k_11, k_12, k_13, k_14, k_15, k_16, k_17, k_18, k_19, k_20, k_21, k_22, k_23, k_24, k_25, k_26, k_27, k_28, k_30, k_31, k_32, k_33, k_37, k_38, k_40, k_41, k_42, k_43, k_45, k_47, k_48, k_50, k_57, k_60, k_61, k_62, k_63, k_66, k_70, k_71, k_99, k_124, k_128, k_186, k_198, k_216, k_240, k_255, k_256, k_300, k_324, k_448, k_999, k_9999, k_10000, k_12345, k_20000, k_20001, k_20002, k_20003, k_20004, k_20005, k_20006, k_20007, k_20008, k_20009, k_20010, k_999999, k_100000000, k_m1, zl_add, zl_mul, zl_sub, zl_div, zl_mod, zl_lt, zl_le, zl_eq, zl_cl, zl_b, zm1_eq, zm1_eq2, zm1_lt, zm1_nlt, zm1_le, zm1_nle, z_guard, Option.bind_some, if_true, if_false, decide_true, show 20000 ≤ 20010 by omega, Nat.add_sub_cancel, show s.length < 60 by omega, h5]
        simp only [← k_0, ← k_1]
        by_cases hx : x = 0
        · simp only [hx, if_true] at this ⊢; exact this
        · simp only [hx, if_false] at this ⊢; exact this
    · rw [if_neg b1, if_neg b2, if_neg b3] at hst
      obtain ⟨hz1, hz2, hz3⟩ := zop_o a
      match hs : zst nm (l.drop (m + 1)) with
      | [] => rw [hs] at hlen; simp at hlen; omega
      | [x] => rw [hs] at hlen; simp at hlen; omega
      | y :: x :: s =>
        rw [hs] at hst h4 hlen
        simp only at hst
        rw [List.length_cons, List.length_cons] at hlen
        obtain ⟨h5, h6⟩ := zpile_top h4
        obtain ⟨h7, h8⟩ := zpile_top h6
        rw [List.length_cons] at h5
        have := hnext (zup V 8 s.length (zco q.1 x y)) (fun c j hc => zup_o (by omega)) (by rw [hst]; exact zpile_cons h8 rfl ⟨zup_y, fun i hi => zup_o (by omega)⟩)
        rw [hst, List.length_cons] at this
        have hdn := m_done V a x y
        rw [← hz1] at hdn
        simp (disch := omega) only [List.length_cons, k_0, k_1, k_2, k_3, k_4, k_5, k_6, k_7, k_8, k_9, k_10, k_11, k_12, k_13, k_14, k_15, k_16, k_17, k_18, k_19, k_20, k_21, k_22, k_23, k_24, k_25, k_26, k_27, k_28, k_30, k_31, k_32, k_33, k_37, k_38, k_40, k_41, k_42, k_43, k_45, k_47, k_48, k_50, k_57, k_60, k_61, k_62, k_63, k_66, k_70, k_71, k_99, k_124, k_128, k_186, k_198, k_216, k_240, k_255, k_256, k_300, k_324, k_448, k_999, k_9999, k_10000, k_12345, k_20000, k_20001, k_20002, k_20003, k_20004, k_20005, k_20006, k_20007, k_20008, k_20009, k_20010, k_999999, k_100000000, k_m1, zl_add, zl_mul, zl_sub, zl_div, zl_mod, zl_lt, zl_le, zl_eq, zl_cl, zl_b, zm1_eq, zm1_eq2, zm1_lt, zm1_nlt, zm1_le, zm1_nle, z_guard, Option.bind_some, if_true, if_false, decide_true, hz2, show ¬ zop q = 20010 by omega, zm1_add, Nat.add_sub_cancel, show s.length < 60 by omega, show s.length + 1 < 60 by omega, h5, h7, hdn]
        exact this
theorem m_work {V : zI} {nn c : Nat} {l : List (Nat × Nat)} (hc : c + 62 ≤ 448) (hnn : nn ≤ 4) (hl : l.length ≤ 60) (hdl : zdep nn l = some 1) (ht : tM (V 1) c (some l)) (nm : Nat → Int32) (hn : ∀ i, i < nn → V 7 i = nm i) : ∃ V', fm_worked V (nI (c + 1)) = some ((zst nm l).headD 0, V') ∧ ∀ i j, i ≠ 8 → V' i j = V i j := by
  obtain ⟨h1, h2⟩ := ht
  unfold fm_worked
  have := m_work_L hc hnn hl hdl l.length 0 100 V (by omega) (by omega) h1 h2 hn (by rw [List.drop_length]; intro i hi; simp [zst] at hi)
  rw [List.drop_length] at this
  exact this
/-- held within -/
def zheld (lo hi : Nat) (v : Int32) : Nat := (zmax (nI lo) (zmin (nI hi) v)).toNatClampNeg
theorem zheld_i {lo hi : Nat} (h : lo ≤ hi) (h2 : hi < 2 ^ 31) (v : Int32) : zmax (nI lo) (zmin (nI hi) v) = nI (zheld lo hi v) ∧ lo ≤ zheld lo hi v ∧ zheld lo hi v ≤ hi := by
  have key : ∃ k, lo ≤ k ∧ k ≤ hi ∧ zmax (nI lo) (zmin (nI hi) v) = nI k := by
    unfold zmax zmin
    by_cases h3 : v < nI hi
    · rw [if_pos h3]
      by_cases h4 : nI lo < v
      · rw [if_pos h4]
        have h0 := nI_pos' (n := lo) (by omega)
        obtain ⟨j, hj, rfl⟩ := nI_of (x := v) (by grind)
        exact ⟨j, by have := (nI_ltI (by omega) hj).mp h4; omega, by have := (nI_ltI hj h2).mp h3; omega, rfl⟩
      · rw [if_neg h4]; exact ⟨lo, by omega, h, rfl⟩
    · rw [if_neg h3]
      by_cases h4 : nI lo < nI hi
      · rw [if_pos h4]; exact ⟨hi, h, by omega, rfl⟩
      · rw [if_neg h4]; exact ⟨lo, by omega, h, rfl⟩
  obtain ⟨k, k1, k2, k3⟩ := key
  unfold zheld
  rw [k3, nI_clamp (by omega)]
  exact ⟨rfl, k1, k2⟩
theorem zheld_n {lo hi v : Nat} (h1 : lo ≤ v) (h2 : v ≤ hi) (h3 : hi < 2 ^ 31) : zmax (nI lo) (zmin (nI hi) (nI v)) = nI v := by
  unfold zmax zmin
  by_cases h4 : v < hi
  · rw [if_pos ((nI_ltI (by omega) h3).mpr h4)]
    by_cases h5 : lo < v
    · rw [if_pos ((nI_ltI (by omega) (by omega)).mpr h5)]
    · rw [if_neg (fun h => h5 ((nI_ltI (by omega) (by omega)).mp h)), show lo = v by omega]
  · rw [if_neg (fun h => h4 ((nI_ltI (by omega) h3).mp h)), show hi = v by omega]
    by_cases h5 : lo < v
    · rw [if_pos ((nI_ltI (by omega) (by omega)).mpr h5)]
    · rw [if_neg (fun h => h5 ((nI_ltI (by omega) (by omega)).mp h)), show lo = v by omega]
def znm (a b c d : Nat) (i : Nat) : Int32 := nI (if i = 0 then a else if i = 1 then b else if i = 2 then c else d)
def zhr (t : Option (List (Nat × Nat))) (c d h j : Nat) : Nat := match t with
  | none => c
  | some l => zheld 1 999 ((zst (znm c d h j) l).headD 0)
def zpr (t : Option (List (Nat × Nat))) (w a s : Nat) : Nat := match t with
  | none => w / (2 - (a ||| s))
  | some l => zheld 0 9999 ((zst (znm w a s 0) l).headD 0)
theorem zhr_b {t : Option (List (Nat × Nat))} {c d h j : Nat} (h1 : 1 ≤ c) (h2 : c ≤ 99) : 1 ≤ zhr t c d h j ∧ zhr t c d h j ≤ 999 := by
  cases t with
  | none => unfold zhr; simp only; omega
  | some l => exact (zheld_i (by omega) (by omega) _).2
theorem zor01 {a s : Nat} (ha : a < 2) (hs : s < 2) : a ||| s < 2 := Nat.or_lt_two_pow (n := 1) ha hs
theorem zpr_b {t : Option (List (Nat × Nat))} {w a s : Nat} (h1 : w ≤ 9999) : zpr t w a s ≤ 9999 := by
  cases t with
  | none => exact Nat.le_trans (Nat.div_le_self _ _) h1
  | some l => exact (zheld_i (lo := 0) (by omega) (by omega) _).2.2
theorem znm_w (a b c d : Nat) : (fun i => if i = 0 then nI a else if i = 1 then nI b else if i = 2 then nI c else nI d) = znm a b c d := by
  funext i
  unfold znm
  repeat' split
  all_goals rfl
theorem m_given {V : zI} {t : Option (List (Nat × Nat))} {nn u a b c d : Nat} (hu : u < 2) (hnn : nn ≤ 4) (hw : wfT nn t) (ht : tM (V 1) (324 + 62 * u) t) (ha : a ≤ 9999) (hb : b ≤ 9999) (hc : c < 2) (hd : d < 2) (h0 : u = 0 → 1 ≤ a ∧ a ≤ 99) (h1 : u = 1 → b < 2 ∧ d = 0) : ∃ V', fm_given V (nI u) (nI a) (nI b) (nI c) (nI d) = some (nI (if u = 0 then zhr t a b c d else zpr t a b c), V') ∧ ∀ i j, i ≠ 7 → i ≠ 8 → V' i j = V i j := by
  unfold fm_given
  simp (disch := omega) only [k_0, k_1, k_2, k_3, k_4, k_5, k_6, k_7, k_8, k_9, k_10, k_11, k_12, k_13, k_14, k_15, k_16, k_17, k_18, k_19, k_20, k_21, k_22, k_23, k_24, k_25, k_26, k_27, k_28, k_30, k_31, k_32, k_33, k_37, k_38, k_40, k_41, k_42, k_43, k_45, k_47, k_48, k_50, k_57, k_60, k_61, k_62, k_63, k_66, k_70, k_71, k_99, k_124, k_128, k_186, k_198, k_216, k_240, k_255, k_256, k_300, k_324, k_448, k_999, k_9999, k_10000, k_12345, k_20000, k_20001, k_20002, k_20003, k_20004, k_20005, k_20006, k_20007, k_20008, k_20009, k_20010, k_999999, k_100000000, k_m1, zl_add, zl_mul, zl_sub, zl_div, zl_mod, zl_lt, zl_le, zl_eq, zl_cl, zl_b, zm1_eq, zm1_eq2, zm1_lt, zm1_nlt, zm1_le, zm1_nle, z_guard, Option.bind_some, if_true, if_false, decide_true, Nat.add_sub_cancel, show 324 + 62 * u < 448 by omega]
  generalize hV2 : zup (zup (zup (zup V 7 0 (nI a)) 7 1 (nI b)) 7 2 (nI c)) 7 3 (nI d) = V2
  have hV3 : ∀ i j, i ≠ 7 → V2 i j = V i j := fun i j hi => by subst hV2; (unfold zup; repeat (first | rw [if_neg (by omega)] | rw [if_pos (by omega)]))
  have hV4 : ∀ i, i < nn → V2 7 i = znm a b c d i := fun i hi => by
    subst hV2
    rcases (show i = 0 ∨ i = 1 ∨ i = 2 ∨ i = 3 by omega) with rfl | rfl | rfl | rfl <;> simp [zup, znm]
  cases t with
  | none =>
    have h3 : V 1 (324 + 62 * u) = nI 0 := ht
    rw [h3, if_pos (nI_le (Nat.le_refl 0) (by omega))]
    refine ⟨V2, ?_, fun i j h _ => hV3 i j h⟩
    unfold fm_given_J59 fm_held
    rcases (show u = 0 ∨ u = 1 by omega) with rfl | rfl
    · have := h0 rfl
      simp (disch := omega) only [k_0, k_1, k_2, k_3, k_4, k_5, k_6, k_7, k_8, k_9, k_10, k_11, k_12, k_13, k_14, k_15, k_16, k_17, k_18, k_19, k_20, k_21, k_22, k_23, k_24, k_25, k_26, k_27, k_28, k_30, k_31, k_32, k_33, k_37, k_38, k_40, k_41, k_42, k_43, k_45, k_47, k_48, k_50, k_57, k_60, k_61, k_62, k_63, k_66, k_70, k_71, k_99, k_124, k_128, k_186, k_198, k_216, k_240, k_255, k_256, k_300, k_324, k_448, k_999, k_9999, k_10000, k_12345, k_20000, k_20001, k_20002, k_20003, k_20004, k_20005, k_20006, k_20007, k_20008, k_20009, k_20010, k_999999, k_100000000, k_m1, zl_add, zl_mul, zl_sub, zl_div, zl_mod, zl_lt, zl_le, zl_eq, zl_cl, zl_b, zm1_eq, zm1_eq2, zm1_lt, zm1_nlt, zm1_le, zm1_nle, z_guard, Option.bind_some, if_true, if_false, decide_true, zhr]
      rw [zheld_n (by omega) (by omega) (by omega)]
    · obtain ⟨q1, q2⟩ := h1 rfl
      have q3 := zor01 q1 hc
      simp (disch := omega) only [k_0, k_1, k_2, k_3, k_4, k_5, k_6, k_7, k_8, k_9, k_10, k_11, k_12, k_13, k_14, k_15, k_16, k_17, k_18, k_19, k_20, k_21, k_22, k_23, k_24, k_25, k_26, k_27, k_28, k_30, k_31, k_32, k_33, k_37, k_38, k_40, k_41, k_42, k_43, k_45, k_47, k_48, k_50, k_57, k_60, k_61, k_62, k_63, k_66, k_70, k_71, k_99, k_124, k_128, k_186, k_198, k_216, k_240, k_255, k_256, k_300, k_324, k_448, k_999, k_9999, k_10000, k_12345, k_20000, k_20001, k_20002, k_20003, k_20004, k_20005, k_20006, k_20007, k_20008, k_20009, k_20010, k_999999, k_100000000, k_m1, zl_add, zl_mul, zl_sub, zl_div, zl_mod, zl_lt, zl_le, zl_eq, zl_cl, zl_b, zm1_eq, zm1_eq2, zm1_lt, zm1_nlt, zm1_le, zm1_nle, z_guard, Option.bind_some, if_true, if_false, decide_true, zpr, zl_or, show ¬ 1 = 0 by omega, show ¬ 2 - (b ||| c) = 0 by omega]
      rw [zheld_n (Nat.zero_le _) (Nat.le_trans (Nat.div_le_self _ _) ha) (by omega)]
  | some l =>
    have hw2 : l.length ≤ 60 ∧ zdep nn l = some 1 := hw
    have h3 : V 1 (324 + 62 * u) = nI l.length := ht.1
    have h4 := zdep_le hw2.2
    rw [h3, if_neg (nI_ge (a := 0) (b := l.length) (by omega) (by omega))]
    obtain ⟨V', e1, e2⟩ := m_work (V := V2) (c := 324 + 62 * u) (by omega) hnn hw2.1 hw2.2 ⟨by rw [hV3 _ _ (by omega)]; exact h3, fun k hk => by rw [hV3 _ _ (by omega)]; exact ht.2 k hk⟩ (znm a b c d) hV4
    refine ⟨V', ?_, fun i j h h2 => by rw [e2 i j h2, hV3 i j h]⟩
    unfold fm_given_J59 fm_held
    rcases (show u = 0 ∨ u = 1 by omega) with rfl | rfl
    · simp (disch := omega) only [k_0, k_1, k_2, k_3, k_4, k_5, k_6, k_7, k_8, k_9, k_10, k_11, k_12, k_13, k_14, k_15, k_16, k_17, k_18, k_19, k_20, k_21, k_22, k_23, k_24, k_25, k_26, k_27, k_28, k_30, k_31, k_32, k_33, k_37, k_38, k_40, k_41, k_42, k_43, k_45, k_47, k_48, k_50, k_57, k_60, k_61, k_62, k_63, k_66, k_70, k_71, k_99, k_124, k_128, k_186, k_198, k_216, k_240, k_255, k_256, k_300, k_324, k_448, k_999, k_9999, k_10000, k_12345, k_20000, k_20001, k_20002, k_20003, k_20004, k_20005, k_20006, k_20007, k_20008, k_20009, k_20010, k_999999, k_100000000, k_m1, zl_add, zl_mul, zl_sub, zl_div, zl_mod, zl_lt, zl_le, zl_eq, zl_cl, zl_b, zm1_eq, zm1_eq2, zm1_lt, zm1_nlt, zm1_le, zm1_nle, z_guard, Option.bind_some, if_true, if_false, decide_true, zhr, e1, show ¬ 1 = 0 by omega]
      rw [(zheld_i (by omega) (by omega) _).1]
    · obtain ⟨q1, q2⟩ := h1 rfl
      subst q2
      simp (disch := omega) only [k_0, k_1, k_2, k_3, k_4, k_5, k_6, k_7, k_8, k_9, k_10, k_11, k_12, k_13, k_14, k_15, k_16, k_17, k_18, k_19, k_20, k_21, k_22, k_23, k_24, k_25, k_26, k_27, k_28, k_30, k_31, k_32, k_33, k_37, k_38, k_40, k_41, k_42, k_43, k_45, k_47, k_48, k_50, k_57, k_60, k_61, k_62, k_63, k_66, k_70, k_71, k_99, k_124, k_128, k_186, k_198, k_216, k_240, k_255, k_256, k_300, k_324, k_448, k_999, k_9999, k_10000, k_12345, k_20000, k_20001, k_20002, k_20003, k_20004, k_20005, k_20006, k_20007, k_20008, k_20009, k_20010, k_999999, k_100000000, k_m1, zl_add, zl_mul, zl_sub, zl_div, zl_mod, zl_lt, zl_le, zl_eq, zl_cl, zl_b, zm1_eq, zm1_eq2, zm1_lt, zm1_nlt, zm1_le, zm1_nle, z_guard, Option.bind_some, if_true, if_false, decide_true, zpr, e1, show ¬ 1 = 0 by omega]
      rw [(zheld_i (by omega) (by omega) _).1]
