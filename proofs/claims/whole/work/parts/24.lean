/-! texts: what they are worked out to -/
theorem zl_and (a b : Nat) : nI a &&& nI b = nI (a &&& b) := by
  apply Int32.toBitVec_inj.mp
  show BitVec.ofNat 32 a &&& BitVec.ofNat 32 b = BitVec.ofNat 32 (a &&& b)
  exact BitVec.ofNat_and.symm
theorem zl_or (a b : Nat) : nI a ||| nI b = nI (a ||| b) := by
  apply Int32.toBitVec_inj.mp
  show BitVec.ofNat 32 a ||| BitVec.ofNat 32 b = BitVec.ofNat 32 (a ||| b)
  exact BitVec.ofNat_or.symm
theorem zl_xor (a b : Nat) : nI a ^^^ nI b = nI (a ^^^ b) := by
  apply Int32.toBitVec_inj.mp
  show BitVec.ofNat 32 a ^^^ BitVec.ofNat 32 b = BitVec.ofNat 32 (a ^^^ b)
  exact BitVec.ofNat_xor.symm
theorem zm1_add {d : Nat} (h : 0 < d) : nI d + zm1 = nI (d - 1) := by
  obtain ⟨e, rfl⟩ : ∃ e, d = e + 1 := ⟨d - 1, by omega⟩
  exact pk_m1 e
def zco (o : Nat) (x y : Int32) : Int32 :=
  if o = 124 then (if x = 0 then (if y = 0 then 0 else 1) else 1)
  else if o = 38 then (if x = 0 then 0 else if y = 0 then 0 else 1)
  else if o = 60 then (if y ≤ x then 0 else 1)
  else if o = 61 then (if x = y then 1 else 0)
  else if o = 62 then (if x ≤ y then 0 else 1)
  else if o = 43 then x + y
  else if o = 45 then x - y
  else if o = 42 then x * y
  else if o = 47 then (if y = 0 then 0 else x / y)
  else (if y = 0 then 0 else x % y)
def zst (nm : Nat → Int32) : List (Nat × Nat) → List Int32
  | [] => []
  | q :: l => if q.1 = 0 then nI q.2 :: zst nm l else if q.1 = 1 then nm q.2 :: zst nm l else if q.1 = 33 then (match zst nm l with
      | [] => []
      | x :: s => (if x = 0 then 1 else 0) :: s) else (match zst nm l with
      | y :: x :: s => zco q.1 x y :: s
      | s => s)
def zops : List Nat := [124, 38, 60, 61, 62, 43, 45, 42, 47, 37]
theorem c_combine (V : zI) {o : Nat} (ho : o ∈ zops) (x y : Int32) : fc_Text_combine V (nI o) x y = some (zco o x y) := by
  simp only [zops, List.mem_cons, List.not_mem_nil, or_false] at ho
  rcases ho with rfl | rfl | rfl | rfl | rfl | rfl | rfl | rfl | rfl | rfl
  · show fc_Text_combine V (124 : Int32) x y = _
    simp [fc_Text_combine, zco, fc_Text_bit]
    try (repeat' split)
    all_goals (first | rfl | simp_all | skip)
  · show fc_Text_combine V (38 : Int32) x y = _
    simp [fc_Text_combine, zco, fc_Text_bit]
    try (repeat' split)
    all_goals (first | rfl | simp_all | skip)
  · show fc_Text_combine V (60 : Int32) x y = _
    simp [fc_Text_combine, zco, fc_Text_bit]
    try (repeat' split)
    all_goals (first | rfl | simp_all | skip)
  · show fc_Text_combine V (61 : Int32) x y = _
    simp [fc_Text_combine, zco, fc_Text_bit]
    try (repeat' split)
    all_goals (first | rfl | simp_all | skip)
  · show fc_Text_combine V (62 : Int32) x y = _
    simp [fc_Text_combine, zco, fc_Text_bit]
    try (repeat' split)
    all_goals (first | rfl | simp_all | skip)
  · show fc_Text_combine V (43 : Int32) x y = _
    simp [fc_Text_combine, zco, fc_Text_bit]
    try (repeat' split)
    all_goals (first | rfl | simp_all | skip)
  · show fc_Text_combine V (45 : Int32) x y = _
    simp [fc_Text_combine, zco, fc_Text_bit]
    try (repeat' split)
    all_goals (first | rfl | simp_all | skip)
  · show fc_Text_combine V (42 : Int32) x y = _
    simp [fc_Text_combine, zco, fc_Text_bit]
    try (repeat' split)
    all_goals (first | rfl | simp_all | skip)
  · show fc_Text_combine V (47 : Int32) x y = _
    simp [fc_Text_combine, zco, fc_Text_bit]
    try (repeat' split)
    all_goals (first | rfl | simp_all | skip)
  · show fc_Text_combine V (37 : Int32) x y = _
    simp [fc_Text_combine, zco, fc_Text_bit]
    try (repeat' split)
    all_goals (first | rfl | simp_all | skip)
theorem m_done (V : zI) {o : Nat} (ho : o ∈ zops) (x y : Int32) : fm_done V (nI (zop (o, 0))) x y = some (zco o x y) := by
  simp only [zops, List.mem_cons, List.not_mem_nil, or_false] at ho
  rcases ho with rfl | rfl | rfl | rfl | rfl | rfl | rfl | rfl | rfl | rfl
  · show fm_done V (20000 : Int32) x y = _
    simp [fm_done, zco]
    try (repeat' split)
    all_goals (first | rfl | simp_all | skip)
  · show fm_done V (20001 : Int32) x y = _
    simp [fm_done, zco]
    try (repeat' split)
    all_goals (first | rfl | simp_all | skip)
  · show fm_done V (20002 : Int32) x y = _
    simp [fm_done, zco]
    try (repeat' split)
    all_goals (first | rfl | simp_all | skip)
  · show fm_done V (20003 : Int32) x y = _
    simp [fm_done, zco]
    try (repeat' split)
    all_goals (first | rfl | simp_all | skip)
  · show fm_done V (20004 : Int32) x y = _
    simp [fm_done, zco]
    try (repeat' split)
    all_goals (first | rfl | simp_all | skip)
  · show fm_done V (20005 : Int32) x y = _
    simp [fm_done, zco]
    try (repeat' split)
    all_goals (first | rfl | simp_all | skip)
  · show fm_done V (20006 : Int32) x y = _
    simp [fm_done, zco]
    try (repeat' split)
    all_goals (first | rfl | simp_all | skip)
  · show fm_done V (20007 : Int32) x y = _
    simp [fm_done, zco]
    try (repeat' split)
    all_goals (first | rfl | simp_all | skip)
  · show fm_done V (20008 : Int32) x y = _
    simp [fm_done, zco]
    try (repeat' split)
    all_goals (first | rfl | simp_all | skip)
  · show fm_done V (20009 : Int32) x y = _
    simp [fm_done, zco]
    try (repeat' split)
    all_goals (first | rfl | simp_all | skip)
theorem zop_o {q : Nat × Nat} (ho : q.1 ∈ zops) : zop q = zop (q.1, 0) ∧ 20000 ≤ zop q ∧ zop q < 20010 := by
  obtain ⟨o, v⟩ := q
  simp only [zops, List.mem_cons, List.not_mem_nil, or_false] at ho
  rcases ho with rfl | rfl | rfl | rfl | rfl | rfl | rfl | rfl | rfl | rfl <;> simp [zop]
theorem zdep_tl {nn : Nat} {q : Nat × Nat} {l : List (Nat × Nat)} {d : Nat} (h : zdep nn (q :: l) = some d) : ∃ e, zdep nn l = some e ∧ (q.1 = 0 ∧ q.2 ≤ 9999 ∧ d = e + 1 ∨ q.1 = 1 ∧ q.2 < nn ∧ d = e + 1 ∨ q.1 = 33 ∧ 1 ≤ e ∧ d = e ∨ q.1 ∈ zops ∧ q.1 ≠ 0 ∧ q.1 ≠ 1 ∧ q.1 ≠ 33 ∧ 2 ≤ e ∧ d = e - 1) := by
  rw [zdep] at h
  cases he : zdep nn l with
  | none => rw [he] at h; cases h
  | some e =>
    rw [he] at h
    refine ⟨e, rfl, ?_⟩
    simp only at h
    by_cases h0 : q.1 = 0
    · rw [if_pos h0] at h
      by_cases h1 : q.2 ≤ 9999
      · rw [if_pos h1] at h; cases h; exact Or.inl ⟨h0, h1, rfl⟩
      · rw [if_neg h1] at h; cases h
    · rw [if_neg h0] at h
      by_cases h1 : q.1 = 1
      · rw [if_pos h1] at h
        by_cases h2 : q.2 < nn
        · rw [if_pos h2] at h; cases h; exact Or.inr (Or.inl ⟨h1, h2, rfl⟩)
        · rw [if_neg h2] at h; cases h
      · rw [if_neg h1] at h
        by_cases h2 : q.1 = 33
        · rw [if_pos h2] at h
          by_cases h3 : 1 ≤ e
          · rw [if_pos h3] at h; cases h; exact Or.inr (Or.inr (Or.inl ⟨h2, h3, rfl⟩))
          · rw [if_neg h3] at h; cases h
        · rw [if_neg h2] at h
          by_cases h3 : q.1 ∈ zops
          · rw [if_pos (show q.1 ∈ [124, 38, 60, 61, 62, 43, 45, 42, 47, 37] from h3)] at h
            by_cases h4 : 2 ≤ e
            · rw [if_pos h4] at h; cases h; exact Or.inr (Or.inr (Or.inr ⟨h3, h0, h1, h2, h4, rfl⟩))
            · rw [if_neg h4] at h; cases h
          · rw [if_neg (show ¬ q.1 ∈ [124, 38, 60, 61, 62, 43, 45, 42, 47, 37] from h3)] at h; cases h
theorem zdep_drop {nn : Nat} : ∀ (m : Nat) {l : List (Nat × Nat)} {d : Nat}, zdep nn l = some d → ∃ e, zdep nn (l.drop m) = some e
  | 0, _, d, h => ⟨d, h⟩
  | _ + 1, [], d, h => ⟨d, h⟩
  | m + 1, _ :: l, _, h => by
    obtain ⟨e, h1, -⟩ := zdep_tl h
    exact zdep_drop m h1
theorem zdep_le {nn : Nat} : ∀ {l : List (Nat × Nat)} {d : Nat}, zdep nn l = some d → d ≤ l.length
  | [], d, h => by cases h; exact Nat.le_refl _
  | q :: l, d, h => by
    obtain ⟨e, h1, h2⟩ := zdep_tl h
    have := zdep_le h1
    rw [List.length_cons]
    omega
theorem zst_len {nn : Nat} {nm : Nat → Int32} : ∀ {l : List (Nat × Nat)} {d : Nat}, zdep nn l = some d → (zst nm l).length = d
  | [], d, h => by cases h; rfl
  | q :: l, d, h => by
    obtain ⟨e, h1, h2⟩ := zdep_tl h
    have ih := zst_len (nm := nm) h1
    rw [zst]
    rcases h2 with ⟨a, b, c⟩ | ⟨a, b, c⟩ | ⟨a, b, c⟩ | ⟨a, b1, b2, b3, b, c⟩
    · rw [if_pos a, List.length_cons]; omega
    · rw [if_neg (by omega), if_pos a, List.length_cons]; omega
    · rw [if_neg (by omega), if_neg (by omega), if_pos a]
      cases hs : zst nm l with
      | nil => rw [hs] at ih; simp at ih; omega
      | cons x s => rw [hs] at ih; simp at ih ⊢; omega
    · rw [if_neg b1, if_neg b2, if_neg b3]
      match hs : zst nm l with
      | [] => rw [hs] at ih; simp at ih; omega
      | [x] => rw [hs] at ih; simp at ih; omega
      | y :: x :: s => rw [hs] at ih; simp at ih ⊢; omega
/-- a pile of cells: the first d of F, the last on top -/
def zpile (F : Nat → Int32) (s : List Int32) : Prop := ∀ i, i < s.length → F i = s.getD (s.length - 1 - i) 0
theorem zpile_cons {F : Nat → Int32} {s : List Int32} {x : Int32} (h : zpile F s) {d : Nat} (hd : d = s.length) {G : Nat → Int32} (hG : G d = x ∧ ∀ i, i < d → G i = F i) : zpile G (x :: s) := by
  subst hd
  intro i hi
  rw [List.length_cons] at hi ⊢
  by_cases hi2 : i = s.length
  · subst hi2
    rw [hG.1, show s.length + 1 - 1 - s.length = 0 by omega]; rfl
  · rw [hG.2 i (by omega), h i (by omega), show s.length + 1 - 1 - i = (s.length - 1 - i) + 1 by omega]; rfl
theorem zpile_top {F : Nat → Int32} {s : List Int32} {x : Int32} (h : zpile F (x :: s)) : F s.length = x ∧ zpile F s := by
  constructor
  · have := h s.length (by simp)
    rw [this]
    simp
  · intro i hi
    have := h i (by simp; omega)
    rw [this, List.length_cons, show s.length + 1 - 1 - i = (s.length - 1 - i) + 1 by omega]; rfl
theorem zdrop1 {α : Type} {l : List α} {k m : Nat} {z : α} (h : k + (m + 1) = l.length) : l.drop m = l.reverse.getD k z :: l.drop (m + 1) := by
  rw [List.drop_eq_getElem_cons (by omega)]
  congr 1
  rw [List.getD_eq_getElem?_getD, List.getElem?_reverse (by omega), show l.length - 1 - k = m by omega, List.getElem?_eq_getElem (by omega)]; rfl
theorem c_work_L {nn : Nat} {nm : Nat → Int32} {l : List (Nat × Nat)} (hnn : nn ≤ 4) (hl : l.length ≤ 60) (hd : ∃ d, zdep nn l = some d) : ∀ (m k fuel : Nat) (V : zI), k + m = l.length → m < fuel → V 35 1 = nI l.length → (∀ k, k < l.length → V (35 + 1) k = nI (l.reverse.getD k (0, 0)).1 ∧ V (35 + 2) k = nI (l.reverse.getD k (0, 0)).2) → (∀ i, i < nn → V 39 i = nm i) → zpile (V 38) (zst nm (l.drop m)) → ∃ V', fc_Text_workOut_L35 fuel (nI (zst nm (l.drop m)).length) (nI k) V = some ((zst nm l).headD 0, V') ∧ ∀ c j, c ≠ 38 → V' c j = V c j := by
  intro m
  obtain ⟨dl, hdl⟩ := hd
  have b0 : ∀ V, fc_Text_bit V 0 = some 0 := fun V => rfl
  have b1 : ∀ V, fc_Text_bit V 1 = some 1 := fun V => rfl
  induction m with
  | zero =>
    intro k fuel V hk hf h1 h2 h3 h4
    obtain ⟨f, rfl⟩ : ∃ f, fuel = f + 1 := ⟨fuel - 1, by omega⟩
    have hk2 : k = l.length := by omega
    rw [fc_Text_workOut_L35, h1, ← hk2, if_pos (nI_le (Nat.le_refl k) (by omega))]
    rw [List.drop_zero] at h4 ⊢
    have hlen := zst_len (nm := nm) hdl
    have := zdep_le hdl
    cases hs : zst nm l with
    | nil =>
      exact ⟨V, by simp (disch := omega) only [List.length_nil, k_0, k_1, k_2, k_3, k_4, k_5, k_6, k_7, k_8, k_9, k_10, k_11, k_12, k_13, k_14, k_15, k_16, k_17, k_18, k_19, k_20, k_21, k_22, k_23, k_24, k_25, k_26, k_27, k_28, k_30, k_31, k_32, k_33, k_37, k_38, k_40, k_41, k_42, k_43, k_45, k_47, k_48, k_50, k_57, k_60, k_61, k_62, k_63, k_66, k_70, k_71, k_99, k_124, k_128, k_186, k_198, k_216, k_240, k_255, k_256, k_300, k_324, k_448, k_999, k_9999, k_10000, k_12345, k_20000, k_20001, k_20002, k_20003, k_20004, k_20005, k_20006, k_20007, k_20008, k_20009, k_20010, k_999999, k_100000000, k_m1, zl_add, zl_mul, zl_sub, zl_div, zl_mod, zl_lt, zl_le, zl_eq, zl_cl, zl_b, zm1_eq, zm1_eq2, zm1_lt, zm1_nlt, zm1_le, zm1_nle, z_guard, Option.bind_some, if_true, if_false, decide_true, show 0 < 1 by omega, List.headD_nil], fun _ _ _ => rfl⟩
    | cons x s =>
      rw [hs] at h4 hlen
      rw [List.length_cons] at hlen
      have h5 := (zpile_top h4).1
      refine ⟨V, ?_, fun _ _ _ => rfl⟩
      simp (disch := omega) only [List.length_cons, k_0, k_1, k_2, k_3, k_4, k_5, k_6, k_7, k_8, k_9, k_10, k_11, k_12, k_13, k_14, k_15, k_16, k_17, k_18, k_19, k_20, k_21, k_22, k_23, k_24, k_25, k_26, k_27, k_28, k_30, k_31, k_32, k_33, k_37, k_38, k_40, k_41, k_42, k_43, k_45, k_47, k_48, k_50, k_57, k_60, k_61, k_62, k_63, k_66, k_70, k_71, k_99, k_124, k_128, k_186, k_198, k_216, k_240, k_255, k_256, k_300, k_324, k_448, k_999, k_9999, k_10000, k_12345, k_20000, k_20001, k_20002, k_20003, k_20004, k_20005, k_20006, k_20007, k_20008, k_20009, k_20010, k_999999, k_100000000, k_m1, zl_add, zl_mul, zl_sub, zl_div, zl_mod, zl_lt, zl_le, zl_eq, zl_cl, zl_b, zm1_eq, zm1_eq2, zm1_lt, zm1_nlt, zm1_le, zm1_nle, z_guard, Option.bind_some, if_true, if_false, decide_true, show ¬ s.length + 1 < 1 by omega, show s.length < 60 by omega, Nat.add_sub_cancel, h5, List.headD_cons]
  | succ m ih =>
    intro k fuel V hk hf h1 h2 h3 h4
    obtain ⟨f, rfl⟩ : ∃ f, fuel = f + 1 := ⟨fuel - 1, by omega⟩
    have hdr := zdrop1 (z := (0, 0)) hk
    obtain ⟨d, hd⟩ := zdep_drop m hdl
    have hd2 := zdep_le hd
    rw [List.length_drop] at hd2
    rw [hdr] at hd
    obtain ⟨e, he, hq⟩ := zdep_tl hd
    have he2 := zdep_le he
    rw [List.length_drop] at he2
    have hlen := zst_len (nm := nm) he
    obtain ⟨t1, t2⟩ := h2 k (by omega)
    rw [show 35 + 1 = 36 from rfl] at t1
    rw [show 35 + 2 = 37 from rfl] at t2
    generalize hq0 : l.reverse.getD k (0, 0) = q at *
    have hst : zst nm (l.drop m) = zst nm (q :: l.drop (m + 1)) := by rw [hdr]
    rw [zst] at hst
    have hnext : ∀ (V2 : zI), (∀ c j, c ≠ 38 → V2 c j = V c j) → zpile (V2 38) (zst nm (l.drop m)) → ∃ V', fc_Text_workOut_L35 f (nI (zst nm (l.drop m)).length) (nI (k + 1)) V2 = some ((zst nm l).headD 0, V') ∧ ∀ c j, c ≠ 38 → V' c j = V c j := fun V2 e1 e2 => by
      obtain ⟨V', f1, f2⟩ := ih (k + 1) f V2 (by omega) (by omega) (by rw [e1 _ _ (by omega)]; exact h1) (fun k hk => by rw [e1 _ _ (by omega), e1 _ _ (by omega)]; exact h2 k hk) (fun i hi => by rw [e1 _ _ (by omega)]; exact h3 i hi) e2
      exact ⟨V', f1, fun c j hc => by rw [f2 c j hc, e1 c j hc]⟩
    rw [fc_Text_workOut_L35, h1, if_neg (nI_ge (a := k) (b := l.length) (by omega) (by omega))]
    simp (disch := omega) only [zl_b, show k < 60 by omega, decide_true, z_guard, if_true, zl_cl]
    rw [t1]
    rcases hq with ⟨a, b, c⟩ | ⟨a, b, c⟩ | ⟨a, b, c⟩ | ⟨a, b1, b2, b3, b, c⟩
    · rw [if_pos a] at hst
      have hv : fc_Text_valueAt V (nI k) = some (nI q.2) := by
        unfold fc_Text_valueAt
        simp (disch := omega) only [k_0, k_1, k_2, k_3, k_4, k_5, k_6, k_7, k_8, k_9, k_10, k_11, k_12, k_13, k_14, k_15, k_16, k_17, k_18, k_19, k_20, k_21, k_22, k_23, k_24, k_25, k_26, k_27, k_28, k_30, k_31, k_32, k_33, k_37, k_38, k_40, k_41, k_42, k_43, k_45, k_47, k_48, k_50, k_57, k_60, k_61, k_62, k_63, k_66, k_70, k_71, k_99, k_124, k_128, k_186, k_198, k_216, k_240, k_255, k_256, k_300, k_324, k_448, k_999, k_9999, k_10000, k_12345, k_20000, k_20001, k_20002, k_20003, k_20004, k_20005, k_20006, k_20007, k_20008, k_20009, k_20010, k_999999, k_100000000, k_m1, zl_add, zl_mul, zl_sub, zl_div, zl_mod, zl_lt, zl_le, zl_eq, zl_cl, zl_b, zm1_eq, zm1_eq2, zm1_lt, zm1_nlt, zm1_le, zm1_nle, z_guard, Option.bind_some, if_true, if_false, decide_true, show k < 60 by omega, t1, a, t2]
      simp (disch := omega) only [a, k_0, k_1, k_2, k_3, k_4, k_5, k_6, k_7, k_8, k_9, k_10, k_11, k_12, k_13, k_14, k_15, k_16, k_17, k_18, k_19, k_20, k_21, k_22, k_23, k_24, k_25, k_26, k_27, k_28, k_30, k_31, k_32, k_33, k_37, k_38, k_40, k_41, k_42, k_43, k_45, k_47, k_48, k_50, k_57, k_60, k_61, k_62, k_63, k_66, k_70, k_71, k_99, k_124, k_128, k_186, k_198, k_216, k_240, k_255, k_256, k_300, k_324, k_448, k_999, k_9999, k_10000, k_12345, k_20000, k_20001, k_20002, k_20003, k_20004, k_20005, k_20006, k_20007, k_20008, k_20009, k_20010, k_999999, k_100000000, k_m1, zl_add, zl_mul, zl_sub, zl_div, zl_mod, zl_lt, zl_le, zl_eq, zl_cl, zl_b, zm1_eq, zm1_eq2, zm1_lt, zm1_nlt, zm1_le, zm1_nle, z_guard, Option.bind_some, if_true, if_false, decide_true, hlen, show ¬ 60 ≤ e by omega, hv, show e < 60 by omega]
      have := hnext (zup V 38 e (nI q.2)) (fun c j hc => zup_o (by omega)) (by rw [hst]; exact zpile_cons h4 hlen.symm ⟨zup_y, fun i hi => zup_o (by omega)⟩)
      rw [hst, List.length_cons, hlen] at this
      exact this
    · rw [if_neg (by omega), if_pos a] at hst
      have hw : (nI 0 ≤ nI q.2 ∧ nI q.2 ≤ nI 3) := ⟨nI_le (by omega) (by omega), nI_le (by omega) (by omega)⟩
      have hv : fc_Text_valueAt V (nI k) = some (nm q.2) := by
        unfold fc_Text_valueAt
        simp (disch := omega) only [k_0, k_1, k_2, k_3, k_4, k_5, k_6, k_7, k_8, k_9, k_10, k_11, k_12, k_13, k_14, k_15, k_16, k_17, k_18, k_19, k_20, k_21, k_22, k_23, k_24, k_25, k_26, k_27, k_28, k_30, k_31, k_32, k_33, k_37, k_38, k_40, k_41, k_42, k_43, k_45, k_47, k_48, k_50, k_57, k_60, k_61, k_62, k_63, k_66, k_70, k_71, k_99, k_124, k_128, k_186, k_198, k_216, k_240, k_255, k_256, k_300, k_324, k_448, k_999, k_9999, k_10000, k_12345, k_20000, k_20001, k_20002, k_20003, k_20004, k_20005, k_20006, k_20007, k_20008, k_20009, k_20010, k_999999, k_100000000, k_m1, zl_add, zl_mul, zl_sub, zl_div, zl_mod, zl_lt, zl_le, zl_eq, zl_cl, zl_b, zm1_eq, zm1_eq2, zm1_lt, zm1_nlt, zm1_le, zm1_nle, z_guard, Option.bind_some, if_true, if_false, decide_true, show k < 60 by omega, t1, a, t2, show ¬ 1 = 0 by omega, cwi, show 0 ≤ q.2 ∧ q.2 ≤ 3 by omega, show q.2 < 4 by omega, h3 q.2 b]
        exact if_neg (by decide)
      simp (disch := omega) only [a, k_0, k_1, k_2, k_3, k_4, k_5, k_6, k_7, k_8, k_9, k_10, k_11, k_12, k_13, k_14, k_15, k_16, k_17, k_18, k_19, k_20, k_21, k_22, k_23, k_24, k_25, k_26, k_27, k_28, k_30, k_31, k_32, k_33, k_37, k_38, k_40, k_41, k_42, k_43, k_45, k_47, k_48, k_50, k_57, k_60, k_61, k_62, k_63, k_66, k_70, k_71, k_99, k_124, k_128, k_186, k_198, k_216, k_240, k_255, k_256, k_300, k_324, k_448, k_999, k_9999, k_10000, k_12345, k_20000, k_20001, k_20002, k_20003, k_20004, k_20005, k_20006, k_20007, k_20008, k_20009, k_20010, k_999999, k_100000000, k_m1, zl_add, zl_mul, zl_sub, zl_div, zl_mod, zl_lt, zl_le, zl_eq, zl_cl, zl_b, zm1_eq, zm1_eq2, zm1_lt, zm1_nlt, zm1_le, zm1_nle, z_guard, Option.bind_some, if_true, if_false, decide_true, hlen, show ¬ 60 ≤ e by omega, show ¬ 1 = 0 by omega, hv, show e < 60 by omega]
      have := hnext (zup V 38 e (nm q.2)) (fun c j hc => zup_o (by omega)) (by rw [hst]; exact zpile_cons h4 hlen.symm ⟨zup_y, fun i hi => zup_o (by omega)⟩)
      rw [hst, List.length_cons, hlen] at this
      exact this
    · rw [if_neg (by omega), if_neg (by omega), if_pos a] at hst
      cases hs : zst nm (l.drop (m + 1)) with
      | nil => rw [hs] at hlen; simp at hlen; omega
      | cons x s =>
        rw [hs] at hst h4 hlen
        simp only at hst
        rw [List.length_cons] at hlen
        obtain ⟨h5, h6⟩ := zpile_top h4
        have := hnext (zup V 38 s.length (if x = 0 then 1 else 0)) (fun c j hc => zup_o (by omega)) (by rw [hst]; exact zpile_cons h6 rfl ⟨zup_y, fun i hi => zup_o (by omega)⟩)
        rw [hst, List.length_cons] at this
        simp (disch := omega) only [a, List.length_cons, k_0, k_1, k_2, k_3, k_4, k_5, k_6, k_7, k_8, k_9, k_10, k_11, k_12, k_13, k_14, k_15, k_16, k_17, k_18, k_19, k_20, k_21, k_22, k_23, k_24, k_25, k_26, k_27, k_28, k_30, k_31, k_32, k_33, k_37, k_38, k_40, k_41, k_42, k_43, k_45, k_47, k_48, k_50, k_57, k_60, k_61, k_62, k_63, k_66, k_70, k_71, k_99, k_124, k_128, k_186, k_198, k_216, k_240, k_255, k_256, k_300, k_324, k_448, k_999, k_9999, k_10000, k_12345, k_20000, k_20001, k_20002, k_20003, k_20004, k_20005, k_20006, k_20007, k_20008, k_20009, k_20010, k_999999, k_100000000, k_m1, zl_add, zl_mul, zl_sub, zl_div, zl_mod, zl_lt, zl_le, zl_eq, zl_cl, zl_b, zm1_eq, zm1_eq2, zm1_lt, zm1_nlt, zm1_le, zm1_nle, z_guard, Option.bind_some, if_true, if_false, decide_true, show ¬ 33 = 0 by omega, show ¬ 33 = 1 by omega, show ¬ s.length + 1 < 1 by omega, Nat.add_sub_cancel, show s.length < 60 by omega, h5]
        simp only [← k_0, ← k_1, b0, b1, Option.bind_some]
        by_cases hx : x = 0
        · simp only [hx, if_true] at this ⊢; exact this
        · simp only [hx, if_false] at this ⊢; exact this
    · rw [if_neg b1, if_neg b2, if_neg b3] at hst
      have hq9 : q.1 < 200 := by
        simp only [zops, List.mem_cons, List.not_mem_nil, or_false] at a
        omega
      match hs : zst nm (l.drop (m + 1)) with
      | [] => rw [hs] at hlen; simp at hlen; omega
      | [x] => rw [hs] at hlen; simp at hlen; omega
      | y :: x :: s =>
        rw [hs] at hst h4 hlen
        simp only at hst
        rw [List.length_cons, List.length_cons] at hlen
        obtain ⟨h5, h6⟩ := zpile_top h4
        obtain ⟨h7, h8⟩ := zpile_top h6
        rw [List.length_cons] at h5
        have := hnext (zup V 38 s.length (zco q.1 x y)) (fun c j hc => zup_o (by omega)) (by rw [hst]; exact zpile_cons h8 rfl ⟨zup_y, fun i hi => zup_o (by omega)⟩)
        rw [hst, List.length_cons] at this
        simp (disch := omega) only [List.length_cons, k_0, k_1, k_2, k_3, k_4, k_5, k_6, k_7, k_8, k_9, k_10, k_11, k_12, k_13, k_14, k_15, k_16, k_17, k_18, k_19, k_20, k_21, k_22, k_23, k_24, k_25, k_26, k_27, k_28, k_30, k_31, k_32, k_33, k_37, k_38, k_40, k_41, k_42, k_43, k_45, k_47, k_48, k_50, k_57, k_60, k_61, k_62, k_63, k_66, k_70, k_71, k_99, k_124, k_128, k_186, k_198, k_216, k_240, k_255, k_256, k_300, k_324, k_448, k_999, k_9999, k_10000, k_12345, k_20000, k_20001, k_20002, k_20003, k_20004, k_20005, k_20006, k_20007, k_20008, k_20009, k_20010, k_999999, k_100000000, k_m1, zl_add, zl_mul, zl_sub, zl_div, zl_mod, zl_lt, zl_le, zl_eq, zl_cl, zl_b, zm1_eq, zm1_eq2, zm1_lt, zm1_nlt, zm1_le, zm1_nle, z_guard, Option.bind_some, if_true, if_false, decide_true, b1, b2, b3, show ¬ s.length + 1 + 1 < 2 by omega, zm1_add, Nat.add_sub_cancel, show s.length < 60 by omega, show s.length + 1 < 60 by omega, h5, h7, c_combine V a]
        exact this
theorem c_work {V : zI} {nn : Nat} {l : List (Nat × Nat)} (hnn : nn ≤ 4) (hl : l.length ≤ 60) (hd : ∃ d, zdep nn l = some d) (ht : tC V 35 (some l)) (a b c d : Int32) : ∃ V', fc_Text_workOut V a b c d = some ((zst (fun i => if i = 0 then a else if i = 1 then b else if i = 2 then c else d) l).headD 0, V') ∧ ∀ i j, i ≠ 38 → i ≠ 39 → V' i j = V i j := by
  obtain ⟨h1, h2, h3⟩ := ht
  unfold fc_Text_workOut
  simp (disch := omega) only [k_0, k_1, k_2, k_3, k_4, k_5, k_6, k_7, k_8, k_9, k_10, k_11, k_12, k_13, k_14, k_15, k_16, k_17, k_18, k_19, k_20, k_21, k_22, k_23, k_24, k_25, k_26, k_27, k_28, k_30, k_31, k_32, k_33, k_37, k_38, k_40, k_41, k_42, k_43, k_45, k_47, k_48, k_50, k_57, k_60, k_61, k_62, k_63, k_66, k_70, k_71, k_99, k_124, k_128, k_186, k_198, k_216, k_240, k_255, k_256, k_300, k_324, k_448, k_999, k_9999, k_10000, k_12345, k_20000, k_20001, k_20002, k_20003, k_20004, k_20005, k_20006, k_20007, k_20008, k_20009, k_20010, k_999999, k_100000000, k_m1, zl_cl]
  obtain ⟨V', e1, e2⟩ := c_work_L (nm := fun i => if i = 0 then a else if i = 1 then b else if i = 2 then c else d) hnn hl hd l.length 0 100 (zup (zup (zup (zup V 39 0 a) 39 1 b) 39 2 c) 39 3 d) (by omega) (by omega) (by (unfold zup; repeat (first | rw [if_neg (by omega)] | rw [if_pos (by omega)])); exact h2) (fun k hk => by (unfold zup; repeat (first | rw [if_neg (by omega)] | rw [if_pos (by omega)])); exact h3 k hk) (fun i hi => by
      rcases (show i = 0 ∨ i = 1 ∨ i = 2 ∨ i = 3 by omega) with rfl | rfl | rfl | rfl <;> simp [zup]) (by rw [List.drop_length]; intro i hi; simp [zst] at hi)
  rw [List.drop_length] at e1
  exact ⟨V', e1, fun i j hi hj => by rw [e2 i j hi]; (unfold zup; repeat (first | rw [if_neg (by omega)] | rw [if_pos (by omega)]))⟩
theorem c_work_L_2 {nn : Nat} {nm : Nat → Int32} {l : List (Nat × Nat)} (hnn : nn ≤ 4) (hl : l.length ≤ 60) (hd : ∃ d, zdep nn l = some d) : ∀ (m k fuel : Nat) (V : zI), k + m = l.length → m < fuel → V 40 1 = nI l.length → (∀ k, k < l.length → V (40 + 1) k = nI (l.reverse.getD k (0, 0)).1 ∧ V (40 + 2) k = nI (l.reverse.getD k (0, 0)).2) → (∀ i, i < nn → V 44 i = nm i) → zpile (V 43) (zst nm (l.drop m)) → ∃ V', fc_Text_workOut_2_L35 fuel (nI (zst nm (l.drop m)).length) (nI k) V = some ((zst nm l).headD 0, V') ∧ ∀ c j, c ≠ 43 → V' c j = V c j := by
  intro m
  obtain ⟨dl, hdl⟩ := hd
  have b0 : ∀ V, fc_Text_bit V 0 = some 0 := fun V => rfl
  have b1 : ∀ V, fc_Text_bit V 1 = some 1 := fun V => rfl
  induction m with
  | zero =>
    intro k fuel V hk hf h1 h2 h3 h4
    obtain ⟨f, rfl⟩ : ∃ f, fuel = f + 1 := ⟨fuel - 1, by omega⟩
    have hk2 : k = l.length := by omega
    rw [fc_Text_workOut_2_L35, h1, ← hk2, if_pos (nI_le (Nat.le_refl k) (by omega))]
    rw [List.drop_zero] at h4 ⊢
    have hlen := zst_len (nm := nm) hdl
    have := zdep_le hdl
    cases hs : zst nm l with
    | nil =>
      exact ⟨V, by simp (disch := omega) only [List.length_nil, k_0, k_1, k_2, k_3, k_4, k_5, k_6, k_7, k_8, k_9, k_10, k_11, k_12, k_13, k_14, k_15, k_16, k_17, k_18, k_19, k_20, k_21, k_22, k_23, k_24, k_25, k_26, k_27, k_28, k_30, k_31, k_32, k_33, k_37, k_38, k_40, k_41, k_42, k_43, k_45, k_47, k_48, k_50, k_57, k_60, k_61, k_62, k_63, k_66, k_70, k_71, k_99, k_124, k_128, k_186, k_198, k_216, k_240, k_255, k_256, k_300, k_324, k_448, k_999, k_9999, k_10000, k_12345, k_20000, k_20001, k_20002, k_20003, k_20004, k_20005, k_20006, k_20007, k_20008, k_20009, k_20010, k_999999, k_100000000, k_m1, zl_add, zl_mul, zl_sub, zl_div, zl_mod, zl_lt, zl_le, zl_eq, zl_cl, zl_b, zm1_eq, zm1_eq2, zm1_lt, zm1_nlt, zm1_le, zm1_nle, z_guard, Option.bind_some, if_true, if_false, decide_true, show 0 < 1 by omega, List.headD_nil], fun _ _ _ => rfl⟩
    | cons x s =>
      rw [hs] at h4 hlen
      rw [List.length_cons] at hlen
      have h5 := (zpile_top h4).1
      refine ⟨V, ?_, fun _ _ _ => rfl⟩
      simp (disch := omega) only [List.length_cons, k_0, k_1, k_2, k_3, k_4, k_5, k_6, k_7, k_8, k_9, k_10, k_11, k_12, k_13, k_14, k_15, k_16, k_17, k_18, k_19, k_20, k_21, k_22, k_23, k_24, k_25, k_26, k_27, k_28, k_30, k_31, k_32, k_33, k_37, k_38, k_40, k_41, k_42, k_43, k_45, k_47, k_48, k_50, k_57, k_60, k_61, k_62, k_63, k_66, k_70, k_71, k_99, k_124, k_128, k_186, k_198, k_216, k_240, k_255, k_256, k_300, k_324, k_448, k_999, k_9999, k_10000, k_12345, k_20000, k_20001, k_20002, k_20003, k_20004, k_20005, k_20006, k_20007, k_20008, k_20009, k_20010, k_999999, k_100000000, k_m1, zl_add, zl_mul, zl_sub, zl_div, zl_mod, zl_lt, zl_le, zl_eq, zl_cl, zl_b, zm1_eq, zm1_eq2, zm1_lt, zm1_nlt, zm1_le, zm1_nle, z_guard, Option.bind_some, if_true, if_false, decide_true, show ¬ s.length + 1 < 1 by omega, show s.length < 60 by omega, Nat.add_sub_cancel, h5, List.headD_cons]
  | succ m ih =>
    intro k fuel V hk hf h1 h2 h3 h4
    obtain ⟨f, rfl⟩ : ∃ f, fuel = f + 1 := ⟨fuel - 1, by omega⟩
    have hdr := zdrop1 (z := (0, 0)) hk
    obtain ⟨d, hd⟩ := zdep_drop m hdl
    have hd2 := zdep_le hd
    rw [List.length_drop] at hd2
    rw [hdr] at hd
    obtain ⟨e, he, hq⟩ := zdep_tl hd
    have he2 := zdep_le he
    rw [List.length_drop] at he2
    have hlen := zst_len (nm := nm) he
    obtain ⟨t1, t2⟩ := h2 k (by omega)
    rw [show 40 + 1 = 41 from rfl] at t1
    rw [show 40 + 2 = 42 from rfl] at t2
    generalize hq0 : l.reverse.getD k (0, 0) = q at *
    have hst : zst nm (l.drop m) = zst nm (q :: l.drop (m + 1)) := by rw [hdr]
    rw [zst] at hst
    have hnext : ∀ (V2 : zI), (∀ c j, c ≠ 43 → V2 c j = V c j) → zpile (V2 43) (zst nm (l.drop m)) → ∃ V', fc_Text_workOut_2_L35 f (nI (zst nm (l.drop m)).length) (nI (k + 1)) V2 = some ((zst nm l).headD 0, V') ∧ ∀ c j, c ≠ 43 → V' c j = V c j := fun V2 e1 e2 => by
      obtain ⟨V', f1, f2⟩ := ih (k + 1) f V2 (by omega) (by omega) (by rw [e1 _ _ (by omega)]; exact h1) (fun k hk => by rw [e1 _ _ (by omega), e1 _ _ (by omega)]; exact h2 k hk) (fun i hi => by rw [e1 _ _ (by omega)]; exact h3 i hi) e2
      exact ⟨V', f1, fun c j hc => by rw [f2 c j hc, e1 c j hc]⟩
    rw [fc_Text_workOut_2_L35, h1, if_neg (nI_ge (a := k) (b := l.length) (by omega) (by omega))]
    simp (disch := omega) only [zl_b, show k < 60 by omega, decide_true, z_guard, if_true, zl_cl]
    rw [t1]
    rcases hq with ⟨a, b, c⟩ | ⟨a, b, c⟩ | ⟨a, b, c⟩ | ⟨a, b1, b2, b3, b, c⟩
    · rw [if_pos a] at hst
      have hv : fc_Text_valueAt_2 V (nI k) = some (nI q.2) := by
        unfold fc_Text_valueAt_2
        simp (disch := omega) only [k_0, k_1, k_2, k_3, k_4, k_5, k_6, k_7, k_8, k_9, k_10, k_11, k_12, k_13, k_14, k_15, k_16, k_17, k_18, k_19, k_20, k_21, k_22, k_23, k_24, k_25, k_26, k_27, k_28, k_30, k_31, k_32, k_33, k_37, k_38, k_40, k_41, k_42, k_43, k_45, k_47, k_48, k_50, k_57, k_60, k_61, k_62, k_63, k_66, k_70, k_71, k_99, k_124, k_128, k_186, k_198, k_216, k_240, k_255, k_256, k_300, k_324, k_448, k_999, k_9999, k_10000, k_12345, k_20000, k_20001, k_20002, k_20003, k_20004, k_20005, k_20006, k_20007, k_20008, k_20009, k_20010, k_999999, k_100000000, k_m1, zl_add, zl_mul, zl_sub, zl_div, zl_mod, zl_lt, zl_le, zl_eq, zl_cl, zl_b, zm1_eq, zm1_eq2, zm1_lt, zm1_nlt, zm1_le, zm1_nle, z_guard, Option.bind_some, if_true, if_false, decide_true, show k < 60 by omega, t1, a, t2]
      simp (disch := omega) only [a, k_0, k_1, k_2, k_3, k_4, k_5, k_6, k_7, k_8, k_9, k_10, k_11, k_12, k_13, k_14, k_15, k_16, k_17, k_18, k_19, k_20, k_21, k_22, k_23, k_24, k_25, k_26, k_27, k_28, k_30, k_31, k_32, k_33, k_37, k_38, k_40, k_41, k_42, k_43, k_45, k_47, k_48, k_50, k_57, k_60, k_61, k_62, k_63, k_66, k_70, k_71, k_99, k_124, k_128, k_186, k_198, k_216, k_240, k_255, k_256, k_300, k_324, k_448, k_999, k_9999, k_10000, k_12345, k_20000, k_20001, k_20002, k_20003, k_20004, k_20005, k_20006, k_20007, k_20008, k_20009, k_20010, k_999999, k_100000000, k_m1, zl_add, zl_mul, zl_sub, zl_div, zl_mod, zl_lt, zl_le, zl_eq, zl_cl, zl_b, zm1_eq, zm1_eq2, zm1_lt, zm1_nlt, zm1_le, zm1_nle, z_guard, Option.bind_some, if_true, if_false, decide_true, hlen, show ¬ 60 ≤ e by omega, hv, show e < 60 by omega]
      have := hnext (zup V 43 e (nI q.2)) (fun c j hc => zup_o (by omega)) (by rw [hst]; exact zpile_cons h4 hlen.symm ⟨zup_y, fun i hi => zup_o (by omega)⟩)
      rw [hst, List.length_cons, hlen] at this
      exact this
    · rw [if_neg (by omega), if_pos a] at hst
      have hw : (nI 0 ≤ nI q.2 ∧ nI q.2 ≤ nI 3) := ⟨nI_le (by omega) (by omega), nI_le (by omega) (by omega)⟩
      have hv : fc_Text_valueAt_2 V (nI k) = some (nm q.2) := by
        unfold fc_Text_valueAt_2
        simp (disch := omega) only [k_0, k_1, k_2, k_3, k_4, k_5, k_6, k_7, k_8, k_9, k_10, k_11, k_12, k_13, k_14, k_15, k_16, k_17, k_18, k_19, k_20, k_21, k_22, k_23, k_24, k_25, k_26, k_27, k_28, k_30, k_31, k_32, k_33, k_37, k_38, k_40, k_41, k_42, k_43, k_45, k_47, k_48, k_50, k_57, k_60, k_61, k_62, k_63, k_66, k_70, k_71, k_99, k_124, k_128, k_186, k_198, k_216, k_240, k_255, k_256, k_300, k_324, k_448, k_999, k_9999, k_10000, k_12345, k_20000, k_20001, k_20002, k_20003, k_20004, k_20005, k_20006, k_20007, k_20008, k_20009, k_20010, k_999999, k_100000000, k_m1, zl_add, zl_mul, zl_sub, zl_div, zl_mod, zl_lt, zl_le, zl_eq, zl_cl, zl_b, zm1_eq, zm1_eq2, zm1_lt, zm1_nlt, zm1_le, zm1_nle, z_guard, Option.bind_some, if_true, if_false, decide_true, show k < 60 by omega, t1, a, t2, show ¬ 1 = 0 by omega, cwi, show 0 ≤ q.2 ∧ q.2 ≤ 3 by omega, show q.2 < 4 by omega, h3 q.2 b]
        exact if_neg (by decide)
      simp (disch := omega) only [a, k_0, k_1, k_2, k_3, k_4, k_5, k_6, k_7, k_8, k_9, k_10, k_11, k_12, k_13, k_14, k_15, k_16, k_17, k_18, k_19, k_20, k_21, k_22, k_23, k_24, k_25, k_26, k_27, k_28, k_30, k_31, k_32, k_33, k_37, k_38, k_40, k_41, k_42, k_43, k_45, k_47, k_48, k_50, k_57, k_60, k_61, k_62, k_63, k_66, k_70, k_71, k_99, k_124, k_128, k_186, k_198, k_216, k_240, k_255, k_256, k_300, k_324, k_448, k_999, k_9999, k_10000, k_12345, k_20000, k_20001, k_20002, k_20003, k_20004, k_20005, k_20006, k_20007, k_20008, k_20009, k_20010, k_999999, k_100000000, k_m1, zl_add, zl_mul, zl_sub, zl_div, zl_mod, zl_lt, zl_le, zl_eq, zl_cl, zl_b, zm1_eq, zm1_eq2, zm1_lt, zm1_nlt, zm1_le, zm1_nle, z_guard, Option.bind_some, if_true, if_false, decide_true, hlen, show ¬ 60 ≤ e by omega, show ¬ 1 = 0 by omega, hv, show e < 60 by omega]
      have := hnext (zup V 43 e (nm q.2)) (fun c j hc => zup_o (by omega)) (by rw [hst]; exact zpile_cons h4 hlen.symm ⟨zup_y, fun i hi => zup_o (by omega)⟩)
      rw [hst, List.length_cons, hlen] at this
      exact this
    · rw [if_neg (by omega), if_neg (by omega), if_pos a] at hst
      cases hs : zst nm (l.drop (m + 1)) with
      | nil => rw [hs] at hlen; simp at hlen; omega
      | cons x s =>
        rw [hs] at hst h4 hlen
        simp only at hst
        rw [List.length_cons] at hlen
        obtain ⟨h5, h6⟩ := zpile_top h4
        have := hnext (zup V 43 s.length (if x = 0 then 1 else 0)) (fun c j hc => zup_o (by omega)) (by rw [hst]; exact zpile_cons h6 rfl ⟨zup_y, fun i hi => zup_o (by omega)⟩)
        rw [hst, List.length_cons] at this
        simp (disch := omega) only [a, List.length_cons, k_0, k_1, k_2, k_3, k_4, k_5, k_6, k_7, k_8, k_9, k_10, k_11, k_12, k_13, k_14, k_15, k_16, k_17, k_18, k_19, k_20, k_21, k_22, k_23, k_24, k_25, k_26, k_27, k_28, k_30, k_31, k_32, k_33, k_37, k_38, k_40, k_41, k_42, k_43, k_45, k_47, k_48, k_50, k_57, k_60, k_61, k_62, k_63, k_66, k_70, k_71, k_99, k_124, k_128, k_186, k_198, k_216, k_240, k_255, k_256, k_300, k_324, k_448, k_999, k_9999, k_10000, k_12345, k_20000, k_20001, k_20002, k_20003, k_20004, k_20005, k_20006, k_20007, k_20008, k_20009, k_20010, k_999999, k_100000000, k_m1, zl_add, zl_mul, zl_sub, zl_div, zl_mod, zl_lt, zl_le, zl_eq, zl_cl, zl_b, zm1_eq, zm1_eq2, zm1_lt, zm1_nlt, zm1_le, zm1_nle, z_guard, Option.bind_some, if_true, if_false, decide_true, show ¬ 33 = 0 by omega, show ¬ 33 = 1 by omega, show ¬ s.length + 1 < 1 by omega, Nat.add_sub_cancel, show s.length < 60 by omega, h5]
        simp only [← k_0, ← k_1, b0, b1, Option.bind_some]
        by_cases hx : x = 0
        · simp only [hx, if_true] at this ⊢; exact this
        · simp only [hx, if_false] at this ⊢; exact this
    · rw [if_neg b1, if_neg b2, if_neg b3] at hst
      have hq9 : q.1 < 200 := by
        simp only [zops, List.mem_cons, List.not_mem_nil, or_false] at a
        omega
      match hs : zst nm (l.drop (m + 1)) with
      | [] => rw [hs] at hlen; simp at hlen; omega
      | [x] => rw [hs] at hlen; simp at hlen; omega
      | y :: x :: s =>
        rw [hs] at hst h4 hlen
        simp only at hst
        rw [List.length_cons, List.length_cons] at hlen
        obtain ⟨h5, h6⟩ := zpile_top h4
        obtain ⟨h7, h8⟩ := zpile_top h6
        rw [List.length_cons] at h5
        have := hnext (zup V 43 s.length (zco q.1 x y)) (fun c j hc => zup_o (by omega)) (by rw [hst]; exact zpile_cons h8 rfl ⟨zup_y, fun i hi => zup_o (by omega)⟩)
        rw [hst, List.length_cons] at this
        simp (disch := omega) only [List.length_cons, k_0, k_1, k_2, k_3, k_4, k_5, k_6, k_7, k_8, k_9, k_10, k_11, k_12, k_13, k_14, k_15, k_16, k_17, k_18, k_19, k_20, k_21, k_22, k_23, k_24, k_25, k_26, k_27, k_28, k_30, k_31, k_32, k_33, k_37, k_38, k_40, k_41, k_42, k_43, k_45, k_47, k_48, k_50, k_57, k_60, k_61, k_62, k_63, k_66, k_70, k_71, k_99, k_124, k_128, k_186, k_198, k_216, k_240, k_255, k_256, k_300, k_324, k_448, k_999, k_9999, k_10000, k_12345, k_20000, k_20001, k_20002, k_20003, k_20004, k_20005, k_20006, k_20007, k_20008, k_20009, k_20010, k_999999, k_100000000, k_m1, zl_add, zl_mul, zl_sub, zl_div, zl_mod, zl_lt, zl_le, zl_eq, zl_cl, zl_b, zm1_eq, zm1_eq2, zm1_lt, zm1_nlt, zm1_le, zm1_nle, z_guard, Option.bind_some, if_true, if_false, decide_true, b1, b2, b3, show ¬ s.length + 1 + 1 < 2 by omega, zm1_add, Nat.add_sub_cancel, show s.length < 60 by omega, show s.length + 1 < 60 by omega, h5, h7, c_combine V a]
        exact this
theorem c_work_2 {V : zI} {nn : Nat} {l : List (Nat × Nat)} (hnn : nn ≤ 4) (hl : l.length ≤ 60) (hd : ∃ d, zdep nn l = some d) (ht : tC V 40 (some l)) (a b c d : Int32) : ∃ V', fc_Text_workOut_2 V a b c d = some ((zst (fun i => if i = 0 then a else if i = 1 then b else if i = 2 then c else d) l).headD 0, V') ∧ ∀ i j, i ≠ 43 → i ≠ 44 → V' i j = V i j := by
  obtain ⟨h1, h2, h3⟩ := ht
  unfold fc_Text_workOut_2
  simp (disch := omega) only [k_0, k_1, k_2, k_3, k_4, k_5, k_6, k_7, k_8, k_9, k_10, k_11, k_12, k_13, k_14, k_15, k_16, k_17, k_18, k_19, k_20, k_21, k_22, k_23, k_24, k_25, k_26, k_27, k_28, k_30, k_31, k_32, k_33, k_37, k_38, k_40, k_41, k_42, k_43, k_45, k_47, k_48, k_50, k_57, k_60, k_61, k_62, k_63, k_66, k_70, k_71, k_99, k_124, k_128, k_186, k_198, k_216, k_240, k_255, k_256, k_300, k_324, k_448, k_999, k_9999, k_10000, k_12345, k_20000, k_20001, k_20002, k_20003, k_20004, k_20005, k_20006, k_20007, k_20008, k_20009, k_20010, k_999999, k_100000000, k_m1, zl_cl]
  obtain ⟨V', e1, e2⟩ := c_work_L_2 (nm := fun i => if i = 0 then a else if i = 1 then b else if i = 2 then c else d) hnn hl hd l.length 0 100 (zup (zup (zup (zup V 44 0 a) 44 1 b) 44 2 c) 44 3 d) (by omega) (by omega) (by (unfold zup; repeat (first | rw [if_neg (by omega)] | rw [if_pos (by omega)])); exact h2) (fun k hk => by (unfold zup; repeat (first | rw [if_neg (by omega)] | rw [if_pos (by omega)])); exact h3 k hk) (fun i hi => by
      rcases (show i = 0 ∨ i = 1 ∨ i = 2 ∨ i = 3 by omega) with rfl | rfl | rfl | rfl <;> simp [zup]) (by rw [List.drop_length]; intro i hi; simp [zst] at hi)
  rw [List.drop_length] at e1
  exact ⟨V', e1, fun i j hi hj => by rw [e2 i j hi]; (unfold zup; repeat (first | rw [if_neg (by omega)] | rw [if_pos (by omega)]))⟩
