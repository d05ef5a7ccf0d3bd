/-! written numbers as naturals -/
theorem k_0 : (0 : Int32) = nI 0 := rfl
theorem k_1 : (1 : Int32) = nI 1 := rfl
theorem k_2 : (2 : Int32) = nI 2 := rfl
theorem k_3 : (3 : Int32) = nI 3 := rfl
theorem k_4 : (4 : Int32) = nI 4 := rfl
theorem k_5 : (5 : Int32) = nI 5 := rfl
theorem k_6 : (6 : Int32) = nI 6 := rfl
theorem k_7 : (7 : Int32) = nI 7 := rfl
theorem k_8 : (8 : Int32) = nI 8 := rfl
theorem k_9 : (9 : Int32) = nI 9 := rfl
theorem k_10 : (10 : Int32) = nI 10 := rfl
theorem k_11 : (11 : Int32) = nI 11 := rfl
theorem k_12 : (12 : Int32) = nI 12 := rfl
theorem k_13 : (13 : Int32) = nI 13 := rfl
theorem k_14 : (14 : Int32) = nI 14 := rfl
theorem k_15 : (15 : Int32) = nI 15 := rfl
theorem k_16 : (16 : Int32) = nI 16 := rfl
theorem k_17 : (17 : Int32) = nI 17 := rfl
theorem k_18 : (18 : Int32) = nI 18 := rfl
theorem k_19 : (19 : Int32) = nI 19 := rfl
theorem k_20 : (20 : Int32) = nI 20 := rfl
theorem k_21 : (21 : Int32) = nI 21 := rfl
theorem k_22 : (22 : Int32) = nI 22 := rfl
theorem k_23 : (23 : Int32) = nI 23 := rfl
theorem k_24 : (24 : Int32) = nI 24 := rfl
theorem k_25 : (25 : Int32) = nI 25 := rfl
theorem k_26 : (26 : Int32) = nI 26 := rfl
theorem k_27 : (27 : Int32) = nI 27 := rfl
theorem k_28 : (28 : Int32) = nI 28 := rfl
theorem k_30 : (30 : Int32) = nI 30 := rfl
theorem k_31 : (31 : Int32) = nI 31 := rfl
theorem k_32 : (32 : Int32) = nI 32 := rfl
theorem k_33 : (33 : Int32) = nI 33 := rfl
theorem k_37 : (37 : Int32) = nI 37 := rfl
theorem k_38 : (38 : Int32) = nI 38 := rfl
theorem k_40 : (40 : Int32) = nI 40 := rfl
theorem k_41 : (41 : Int32) = nI 41 := rfl
theorem k_42 : (42 : Int32) = nI 42 := rfl
theorem k_43 : (43 : Int32) = nI 43 := rfl
theorem k_45 : (45 : Int32) = nI 45 := rfl
theorem k_47 : (47 : Int32) = nI 47 := rfl
theorem k_48 : (48 : Int32) = nI 48 := rfl
theorem k_50 : (50 : Int32) = nI 50 := rfl
theorem k_57 : (57 : Int32) = nI 57 := rfl
theorem k_60 : (60 : Int32) = nI 60 := rfl
theorem k_61 : (61 : Int32) = nI 61 := rfl
theorem k_62 : (62 : Int32) = nI 62 := rfl
theorem k_63 : (63 : Int32) = nI 63 := rfl
theorem k_66 : (66 : Int32) = nI 66 := rfl
theorem k_70 : (70 : Int32) = nI 70 := rfl
theorem k_71 : (71 : Int32) = nI 71 := rfl
theorem k_99 : (99 : Int32) = nI 99 := rfl
theorem k_124 : (124 : Int32) = nI 124 := rfl
theorem k_128 : (128 : Int32) = nI 128 := rfl
theorem k_186 : (186 : Int32) = nI 186 := rfl
theorem k_198 : (198 : Int32) = nI 198 := rfl
theorem k_216 : (216 : Int32) = nI 216 := rfl
theorem k_240 : (240 : Int32) = nI 240 := rfl
theorem k_255 : (255 : Int32) = nI 255 := rfl
theorem k_256 : (256 : Int32) = nI 256 := rfl
theorem k_300 : (300 : Int32) = nI 300 := rfl
theorem k_324 : (324 : Int32) = nI 324 := rfl
theorem k_448 : (448 : Int32) = nI 448 := rfl
theorem k_999 : (999 : Int32) = nI 999 := rfl
theorem k_9999 : (9999 : Int32) = nI 9999 := rfl
theorem k_10000 : (10000 : Int32) = nI 10000 := rfl
theorem k_12345 : (12345 : Int32) = nI 12345 := rfl
theorem k_20000 : (20000 : Int32) = nI 20000 := rfl
theorem k_20001 : (20001 : Int32) = nI 20001 := rfl
theorem k_20002 : (20002 : Int32) = nI 20002 := rfl
theorem k_20003 : (20003 : Int32) = nI 20003 := rfl
theorem k_20004 : (20004 : Int32) = nI 20004 := rfl
theorem k_20005 : (20005 : Int32) = nI 20005 := rfl
theorem k_20006 : (20006 : Int32) = nI 20006 := rfl
theorem k_20007 : (20007 : Int32) = nI 20007 := rfl
theorem k_20008 : (20008 : Int32) = nI 20008 := rfl
theorem k_20009 : (20009 : Int32) = nI 20009 := rfl
theorem k_20010 : (20010 : Int32) = nI 20010 := rfl
theorem k_999999 : (999999 : Int32) = nI 999999 := rfl
theorem k_100000000 : (100000000 : Int32) = nI 100000000 := rfl
def zm1 : Int32 := -1
theorem k_m1 : -nI 1 = zm1 := rfl
theorem zm1_lt {n : Nat} (h : n < 2 ^ 31) : (zm1 < nI n) = True := by
  apply propext
  refine ⟨fun _ => trivial, fun _ => ?_⟩
  have h1 := nI_pos' h
  have h2 : zm1 < 0 := by decide
  grind
theorem zm1_nlt {n : Nat} (h : n < 2 ^ 31) : (nI n < zm1) = False := by
  apply propext
  refine ⟨fun h3 => ?_, False.elim⟩
  have h1 := nI_pos' h
  have h2 : zm1 < 0 := by decide
  grind
theorem zm1_nle {n : Nat} (h : n < 2 ^ 31) : (nI n ≤ zm1) = False := by
  apply propext
  refine ⟨fun h3 => ?_, False.elim⟩
  have h1 := nI_pos' h
  have h2 : zm1 < 0 := by decide
  grind
theorem zm1_le {n : Nat} (h : n < 2 ^ 31) : (zm1 ≤ nI n) = True := by
  apply propext
  refine ⟨fun _ => trivial, fun _ => ?_⟩
  have h1 := nI_pos' h
  have h2 : zm1 < 0 := by decide
  grind
theorem zm1_eq {n : Nat} (h : n < 2 ^ 31) : (nI n = zm1) = False := zl_eqm1 h
theorem zm1_eq2 {n : Nat} (h : n < 2 ^ 31) : (zm1 = nI n) = False := by
  apply propext
  exact ⟨fun e => (zm1_eq h).mp e.symm, False.elim⟩
theorem zl_lt (a b : Nat) (ha : a < 2 ^ 31) (hb : b < 2 ^ 31) : (nI a < nI b) = (a < b) := propext (nI_ltI ha hb)
theorem zl_le (a b : Nat) (ha : a < 2 ^ 31) (hb : b < 2 ^ 31) : (nI a ≤ nI b) = (a ≤ b) := propext (nI_leI ha hb)
theorem zl_eq (a b : Nat) (ha : a < 2 ^ 31) (hb : b < 2 ^ 31) : (nI a = nI b) = (a = b) := propext (nI_eq ha hb)
theorem zl_cl (a : Nat) (ha : a < 2 ^ 31) : (nI a).toNatClampNeg = a := nI_clamp ha
theorem zl_add (a b : Nat) : nI a + nI b = nI (a + b) := nI_add a b
theorem zl_mul (a b : Nat) : nI a * nI b = nI (a * b) := pk_mul a b
theorem zl_sub (a b : Nat) (h : b ≤ a) : nI a - nI b = nI (a - b) := pk_sub h
theorem zl_div (a b : Nat) (ha : a < 2 ^ 31) (h0 : 0 < b) (hb : b < 2 ^ 31) : nI a / nI b = nI (a / b) := pk_div ha h0 hb
theorem zl_mod (a b : Nat) (ha : a < 2 ^ 31) (h0 : 0 < b) (hb : b < 2 ^ 31) : nI a % nI b = nI (a % b) := zl_rem ha h0 hb
theorem z10 : ¬ (1 : Int32) = 0 := by decide
theorem zcl0 : (0 : Int32).toNatClampNeg = 0 := by decide
theorem zcl1 : (1 : Int32).toNatClampNeg = 1 := by decide
/-! which squares, edges, joins, places there are -/
theorem c_hasSquare {V : zI} {n : Nat} (h : V 2 0 = nI n) (hn : n ≤ 8) (x : Int32) : fc_Ground_hasSquare V x = some (if (∃ k, k < n ∧ x = nI k) then 1 else 0) := by
  unfold fc_Ground_hasSquare
  rw [h, cwi]
  simp only [Option.bind_some, zbb_if, z_guard, if_true]
  simp only [zl_cnt (show n < 2 ^ 31 by omega)]
theorem c_hasJoin {V : zI} {n : Nat} (h : V 2 2 = nI n) (hn : n ≤ 16) (x : Int32) : fc_Ground_hasJoin V x = some (if (∃ k, k < n ∧ x = nI k) then 1 else 0) := by
  unfold fc_Ground_hasJoin
  rw [h, cwi]
  simp only [Option.bind_some, zbb_if, z_guard, if_true]
  simp only [zl_cnt (show n < 2 ^ 31 by omega)]
theorem c_hasPlace {V : zI} {n : Nat} (h : V 2 0 = nI n) (hn : n ≤ 8) (x : Int32) : fc_Ground_hasPlace V x = some (if (∃ k, k < 2 * n ∧ x = nI k) then 1 else 0) := by
  unfold fc_Ground_hasPlace
  rw [h, cwi, k_2, zl_mul]
  simp only [Option.bind_some, zbb_if, z_guard, if_true]
  simp only [zl_cnt (show 2 * n < 2 ^ 31 by omega)]
theorem c_hasEdge {V : zI} {n : Nat} (h : V 2 0 = nI n) (hn : n ≤ 8) (x : Int32) : fc_Ground_hasEdge V x = some (if (∃ k, k < 4 * n ∧ x = nI k) then 1 else 0) := by
  unfold fc_Ground_hasEdge
  rw [h, k_4, zl_mul]
  by_cases h1 : x < 0
  · have : ¬ ∃ k, k < 4 * n ∧ x = nI k := by
      rintro ⟨k, hk, rfl⟩
      exact nI_pos (by omega) h1
    simp [h1, this]
  · by_cases h2 : nI (4 * n) ≤ x
    · have : ¬ ∃ k, k < 4 * n ∧ x = nI k := by
        rintro ⟨k, hk, rfl⟩
        exact nI_ge hk (by omega) h2
      simp [h1, h2, this]
    · have : ∃ k, k < 4 * n ∧ x = nI k := by
        rcases zl_rng x (4 * n) (by omega) with h3 | h3 | h3
        · exact h3
        · exact absurd h3 h1
        · exact absurd h3 h2
      simp [h1, h2, this]
theorem m_is {J : zI} {n c : Nat} {a : Int32} (ha : a = nI c) (hc : c < 448) (h : J 1 c = nI n) (hn : n < 2 ^ 31) (x : Int32) : fm_is J x a = some (if (∃ k, k < n ∧ x = nI k) then 1 else 0) := by
  subst ha
  unfold fm_is
  rw [mwi]
  simp only [z_guard, zl_b (show c < 2 ^ 31 by omega), hc, decide_true, if_true, zl_cl c (by omega), h, Option.bind_some, zbb_if]
  simp only [zl_cnt hn]
theorem m_isEdge {J : zI} {n : Nat} (h : J 1 0 = nI n) (hn : n ≤ 8) (x : Int32) : fm_isEdge J x = some (if (∃ k, k < 4 * n ∧ x = nI k) then 1 else 0) := by
  unfold fm_isEdge
  rw [mwi, zcl0, h, k_4, zl_mul]
  simp only [z_guard, if_true, Option.bind_some, zbb_if]
  simp only [zl_cnt (show 4 * n < 2 ^ 31 by omega)]
theorem m_isPlace {J : zI} {n : Nat} (h : J 1 0 = nI n) (hn : n ≤ 8) (x : Int32) : fm_isPlace J x = some (if (∃ k, k < 2 * n ∧ x = nI k) then 1 else 0) := by
  unfold fm_isPlace
  rw [mwi, zcl0, h, k_2, zl_mul]
  simp only [z_guard, if_true, Option.bind_some, zbb_if]
  simp only [zl_cnt (show 2 * n < 2 ^ 31 by omega)]
theorem m_become {J : zI} {c : Nat} {a v : Int32} (ha : a = nI c) (hc : c < 448) : fm_become J a v = some (J 1 c, zup J 1 c v) := by
  subst ha
  unfold fm_become
  simp only [z_guard, zl_b (show c < 2 ^ 31 by omega), hc, decide_true, if_true, zl_cl c (by omega)]
/-! what stays of the land's parts -/
theorem keepW {V V' : zI} {B B' : Nat → Int32} {ns ns' nw : Nat} {kd bg sp : Nat → Nat} {mk : Nat → Int32} {eg : Nat → Nat → Nat} (h : wfW ns nw kd bg sp mk eg ∧ wC V nw kd bg sp mk eg ∧ wM B nw kd bg sp mk eg) (hn : ns ≤ ns') (e : ∀ c k, 7 ≤ c → c ≤ 22 → V' c k = V c k) (e2 : ∀ k, (k = 2 ∨ 66 ≤ k ∧ k < 186) → B' k = B k) : wfW ns' nw kd bg sp mk eg ∧ wC V' nw kd bg sp mk eg ∧ wM B' nw kd bg sp mk eg :=
  ⟨⟨h.1.1, fun w hw => ⟨(h.1.2 w hw).1, by have := (h.1.2 w hw).2.1; omega, (h.1.2 w hw).2.2⟩⟩, wC_cg h.1.1 h.2.1 e, wM_cg h.1.1 (fun w hw => (h.1.2 w hw).2.2.1) h.2.2 e2⟩
theorem keepF {V V' : zI} {B B' : Nat → Int32} {ns ns' np : Nat} {pl hr : Nat → Nat} {nt : Nat} {ly wo al : Nat → Nat} (h : wfF ns np pl hr nt ly wo al ∧ fC V np pl hr nt ly wo al ∧ fM B np pl hr nt ly wo al) (hn : ns ≤ ns') (e : ∀ c k, 23 ≤ c → c ≤ 28 → V' c k = V c k) (e2 : ∀ k, (k = 3 ∨ k = 4 ∨ 186 ≤ k ∧ k < 216) → B' k = B k) : wfF ns' np pl hr nt ly wo al ∧ fC V' np pl hr nt ly wo al ∧ fM B' np pl hr nt ly wo al :=
  ⟨⟨h.1.1, fun p hp => ⟨by have := (h.1.2.1 p hp).1; omega, (h.1.2.1 p hp).2⟩, h.1.2.2.1, fun t ht => ⟨by have := (h.1.2.2.2 t ht).1; omega, (h.1.2.2.2 t ht).2⟩⟩, fC_cg h.2.1 e, fM_cg ⟨h.1.1, h.1.2.2.1⟩ h.2.2 e2⟩
theorem keepD {V V' : zI} {B B' : Nat → Int32} {nj nj' nw nw' dm nf : Nat} {fw fo : Nat → Nat} (h : wfD nj nw dm nf fw fo ∧ dC V dm nf fw fo ∧ dM B dm nf fw fo) (hn : nj ≤ nj') (hw : nw ≤ nw') (e : ∀ c k, (c = 29 ∧ k < 2 ∨ c = 30 ∨ c = 31) → V' c k = V c k) (e2 : ∀ k, (k = 5 ∨ k = 9 ∨ 216 ≤ k ∧ k < 240) → B' k = B k) : wfD nj' nw' dm nf fw fo ∧ dC V' dm nf fw fo ∧ dM B' dm nf fw fo :=
  ⟨⟨Nat.lt_of_lt_of_le h.1.1 (Nat.pow_le_pow_right (by omega) hn), h.1.2.1, h.1.2.2.1, fun f hf => ⟨by have := (h.1.2.2.2 f hf).1; omega, (h.1.2.2.2 f hf).2⟩⟩, dC_cg h.2.1 e, dM_cg h.1.2.2.1 h.2.2 e2⟩
theorem keepG {V V' : zI} {B B' : Nat → Int32} {ns nj : Nat} {cs ea eb tt : Nat → Nat} (h : wfG ns nj cs ea eb tt ∧ gC V ns nj cs ea eb tt ∧ gM B ns nj cs ea eb tt) (e : ∀ c k, 2 ≤ c → c ≤ 6 → V' c k = V c k) (e2 : ∀ k, (k < 2 ∨ 10 ≤ k ∧ k < 66) → B' k = B k) : wfG ns nj cs ea eb tt ∧ gC V' ns nj cs ea eb tt ∧ gM B' ns nj cs ea eb tt :=
  ⟨h.1, gC_cg h.2.1 e, gM_cg ⟨h.1.1, h.1.2.1⟩ h.2.2 e2⟩
theorem rR_L {I J I' J' : zI} (hT : rT I (J 1)) (hP : rP I (J 1)) (hX : rX I J) (hL : rL I' (J' 1)) (e : ∀ c k, (c = 1 ∧ 7 ≤ k ∨ 35 ≤ c ∧ c ≤ 37 ∨ 40 ≤ c ∧ c ≤ 42 ∨ c = 45 ∨ c = 46 ∨ zxrel c k) → I' c k = I c k) (e2 : ∀ k, (6 ≤ k ∧ k ≤ 8 ∨ 240 ≤ k ∧ k < 448) → J' 1 k = J 1 k) (e3 : ∀ c k, mxrel c k → J' c k = J c k) : rR I' J' :=
  ⟨⟨hL, rT_cg hT (fun c k hc => e c k (by omega)) (fun k h1 h2 => e2 k (by omega)), rP_cg hP (fun c k hc => e c k (by omega)) (fun k hk => e2 k (by omega))⟩, rX_cg hX (fun c k hc => e c k (Or.inr (Or.inr (Or.inr (Or.inr (Or.inr hc)))))) e3⟩
def vup {α : Type} (f : Nat → α) (k : Nat) (x : α) : Nat → α := fun j => if j = k then x else f j
theorem vup_s {α : Type} {f : Nat → α} {k : Nat} {x : α} : vup f k x k = x := if_pos rfl
theorem vup_n {α : Type} {f : Nat → α} {k j : Nat} {x : α} (h : j ≠ k) : vup f k x j = f j := if_neg h
theorem jn_cg {ea eb ea' eb' : Nat → Nat} {n e : Nat} (h : ∀ j, j < n → ea' j = ea j ∧ eb' j = eb j) : jn ea' eb' n e = jn ea eb n e := by
  induction n with
  | zero => rfl
  | succ n ih =>
    rw [jn, jn, (h n (by omega)).1, (h n (by omega)).2, ih (fun j hj => h j (by omega))]
theorem jn_none {ea eb : Nat → Nat} {n e : Nat} : jn ea eb n e = none ↔ ∀ j, j < n → ea j ≠ e ∧ eb j ≠ e := by
  induction n with
  | zero => simp [jn]
  | succ n ih =>
    rw [jn]
    by_cases h : ea n = e ∨ eb n = e
    · rw [if_pos h]
      constructor
      · intro h2; cases h2
      · intro h2; have := h2 n (by omega); omega
    · rw [if_neg h, ih]
      constructor
      · intro h2 j hj
        by_cases hj2 : j = n
        · subst hj2; omega
        · exact h2 j (by omega)
      · intro h2 j hj; exact h2 j (by omega)
theorem jn_some {ea eb : Nat → Nat} {n e j : Nat} (h : jn ea eb n e = some j) : j < n ∧ (ea j = e ∨ eb j = e) := by
  induction n with
  | zero => cases h
  | succ n ih =>
    rw [jn] at h
    by_cases h2 : ea n = e ∨ eb n = e
    · rw [if_pos h2] at h
      cases h
      exact ⟨by omega, h2⟩
    · rw [if_neg h2] at h
      have := ih h
      exact ⟨by omega, this.2⟩
