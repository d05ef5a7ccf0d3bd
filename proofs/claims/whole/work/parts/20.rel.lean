/-! PURE: what both sides hold of the land, as naturals; the relation between the class's cells and the reference's row -/
theorem zl_lit (n : Nat) : (OfNat.ofNat n : Int32) = nI n := rfl
theorem zl_b {k n : Nat} (h : k < 2 ^ 31) : zb (nI k) n = decide (k < n) := by
  unfold zb
  rw [nI_toInt h]
  by_cases h2 : k < n <;> simp [h2] <;> omega
theorem zl_rem {a d : Nat} (ha : a < 2 ^ 31) (h0 : 0 < d) (hd : d < 2 ^ 31) : nI a % nI d = nI (a % d) := by
  rw [← irem_eq_mod]
  exact pk_rem ha h0 hd
theorem zl_sub1 {n : Nat} (h : 0 < n) : nI n - 1 = nI (n - 1) := pk_sub h
theorem zl_eqm1 {n : Nat} (h : n < 2 ^ 31) : (nI n = -1) = False := by
  apply propext
  constructor
  · intro e
    have h2 := congrArg Int32.toInt e
    rw [nI_toInt h] at h2
    have h3 : (-1 : Int32).toInt = -1 := by decide
    omega
  · exact False.elim
theorem zl_m1lt : (-1 : Int32) < 0 := by decide
theorem zl_lt0 {n : Nat} (h : n < 2 ^ 31) : (nI n < 0) = False := by
  apply propext
  exact ⟨fun e => nI_pos h e, False.elim⟩
theorem zl_ge0 {n : Nat} (h : n < 2 ^ 31) : (0 ≤ nI n) = True := by
  apply propext
  exact ⟨fun _ => trivial, fun _ => nI_pos' h⟩
/-- an int is one of the n first, or none of them -/
theorem zl_rng (x : Int32) (n : Nat) (hn : n < 2 ^ 31) : (∃ k, k < n ∧ x = nI k) ∨ (x < 0 ∨ nI n ≤ x) := by
  rcases pk_ix x hn with h | h | h
  · exact Or.inr (Or.inl h)
  · exact Or.inr (Or.inr h)
  · exact Or.inl h
theorem zup_c {I : zI} {i k c : Nat} {x : Int32} (h : c ≠ i) : zup I i k x c = I c := by
  funext b
  simp [zup, h]
theorem zup_s {I : zI} {i k : Nat} {x : Int32} : zup I i k x i = upd (I i) k x := by
  funext b
  simp [zup, upd]
/-! within -/
theorem cwi (I : zI) (x a b : Int32) : fc_T_within I x a b = some (if a ≤ x ∧ x ≤ b then 1 else 0) := by
  unfold fc_T_within
  by_cases h1 : x < a
  · have : ¬ a ≤ x := by grind
    simp [h1, this]
  · by_cases h2 : b < x
    · have : ¬ x ≤ b := by grind
      simp [h1, h2, this]
    · have h3 : a ≤ x := by grind
      have h4 : x ≤ b := by grind
      simp [h1, h2, h3, h4]
theorem mwi (I : zI) (x a b : Int32) : fm_within I x a b = some (if a ≤ x ∧ x ≤ b then 1 else 0) := by
  unfold fm_within
  by_cases h1 : x < a
  · have : ¬ a ≤ x := by grind
    simp [h1, this]
  · by_cases h2 : b < x
    · have : ¬ x ≤ b := by grind
      simp [h1, h2, this]
    · have h3 : a ≤ x := by grind
      have h4 : x ≤ b := by grind
      simp [h1, h2, h3, h4]
theorem zbb_if {c : Prop} [Decidable c] : zbb (if c then 1 else 0) = true := by
  by_cases h : c <;> simp [h, zbb]
/-- 0 .. n - 1 -/
theorem zl_cnt {x : Int32} {n : Nat} (hn : n < 2 ^ 31) : (0 ≤ x ∧ x ≤ nI n - 1) ↔ ∃ k, k < n ∧ x = nI k := by
  constructor
  · rintro ⟨h1, h2⟩
    rcases Nat.eq_zero_or_pos n with h0 | h0
    · subst h0
      have : nI 0 - 1 = -1 := by decide
      rw [this] at h2
      have : (-1 : Int32) < 0 := by decide
      exfalso
      grind
    · rw [zl_sub1 h0] at h2
      obtain ⟨j, hj, rfl⟩ := nI_of (x := x) (by grind)
      exact ⟨j, by have := (nI_leI hj (by omega)).mp h2; omega, rfl⟩
  · rintro ⟨k, hk, rfl⟩
    refine ⟨nI_pos' (by omega), ?_⟩
    rw [zl_sub1 (by omega)]
    exact nI_le (by omega) (by omega)
/-! the ground -/
def jn (ea eb : Nat → Nat) : Nat → Nat → Option Nat
  | 0, _ => none
  | n + 1, e => if ea n = e ∨ eb n = e then some n else jn ea eb n e
def jv (o : Option Nat) : Int32 := match o with
  | none => -1
  | some j => nI j
def wfG (ns nj : Nat) (cs ea eb tt : Nat → Nat) : Prop := ns ≤ 8 ∧ nj ≤ 16 ∧ (∀ i, i < ns → 1 ≤ cs i ∧ cs i ≤ 99) ∧
  (∀ j, j < nj → ea j < 4 * ns ∧ eb j < 4 * ns ∧ ea j ≠ eb j ∧ tt j < 2) ∧ ∀ j i, j < nj → i < j → ea i ≠ ea j ∧ ea i ≠ eb j ∧ eb i ≠ ea j ∧ eb i ≠ eb j
def gC (V : zI) (ns nj : Nat) (cs ea eb tt : Nat → Nat) : Prop := V 2 0 = nI ns ∧ V 2 2 = nI nj ∧ (∀ i, i < ns → V 3 i = nI (cs i)) ∧
  (∀ j, j < nj → V 4 (2 * j) = nI (ea j) ∧ V 4 (2 * j + 1) = nI (eb j) ∧ V 5 j = nI (tt j)) ∧ ∀ e, e < 32 → V 6 e = jv (jn ea eb nj e)
def gM (B : Nat → Int32) (ns nj : Nat) (cs ea eb tt : Nat → Nat) : Prop := B 0 = nI ns ∧ B 1 = nI nj ∧ (∀ i, i < ns → B (10 + i) = nI (cs i)) ∧
  ∀ j, j < nj → B (18 + 3 * j) = nI (ea j) ∧ B (18 + 3 * j + 1) = nI (eb j) ∧ B (18 + 3 * j + 2) = nI (tt j)
/-! walks, people and things, doubts -/
def wfW (ns nw : Nat) (kd bg sp : Nat → Nat) (mk : Nat → Int32) (eg : Nat → Nat → Nat) : Prop := nw ≤ 10 ∧ ∀ w, w < nw → kd w < 7 ∧ bg w < ns ∧ sp w ≤ 8 ∧ (-1 ≤ mk w ∧ mk w ≤ 9999) ∧ ∀ k, k < sp w → eg w k < 4
def wC (V : zI) (nw : Nat) (kd bg sp : Nat → Nat) (mk : Nat → Int32) (eg : Nat → Nat → Nat) : Prop := V 7 0 = nI nw ∧ ∀ w, w < nw → V 8 w = nI (kd w) ∧ V 9 w = nI (bg w) ∧ V 10 w = nI (sp w) ∧ V 11 w = mk w ∧ ∀ k, k < sp w → V (13 + w) k = nI (eg w k)
def wM (B : Nat → Int32) (nw : Nat) (kd bg sp : Nat → Nat) (mk : Nat → Int32) (eg : Nat → Nat → Nat) : Prop := B 2 = nI nw ∧ ∀ w, w < nw → B (66 + 12 * w) = nI (kd w) ∧ B (66 + 12 * w + 1) = nI (bg w) ∧ B (66 + 12 * w + 2) = nI (sp w) ∧ B (66 + 12 * w + 3) = mk w ∧ ∀ k, k < sp w → B (66 + 12 * w + 4 + k) = nI (eg w k)
def wfF (ns np : Nat) (pl hr : Nat → Nat) (nt : Nat) (ly wo al : Nat → Nat) : Prop := np ≤ 6 ∧ (∀ p, p < np → pl p < 2 * ns ∧ hr p ≤ 999999) ∧ nt ≤ 6 ∧ ∀ t, t < nt → ly t < 2 * ns ∧ wo t ≤ 9999 ∧ al t < 2
def fC (V : zI) (np : Nat) (pl hr : Nat → Nat) (nt : Nat) (ly wo al : Nat → Nat) : Prop := V 23 0 = nI np ∧ V 23 3 = nI nt ∧ (∀ p, p < np → V 24 p = nI (pl p) ∧ V 25 p = nI (hr p)) ∧ ∀ t, t < nt → V 26 t = nI (ly t) ∧ V 27 t = nI (wo t) ∧ V 28 t = nI (al t)
def fM (B : Nat → Int32) (np : Nat) (pl hr : Nat → Nat) (nt : Nat) (ly wo al : Nat → Nat) : Prop := B 3 = nI np ∧ B 4 = nI nt ∧ (∀ p, p < np → B (186 + 2 * p) = nI (pl p) ∧ B (186 + 2 * p + 1) = nI (hr p)) ∧ ∀ t, t < nt → B (198 + 3 * t) = nI (ly t) ∧ B (198 + 3 * t + 1) = nI (wo t) ∧ B (198 + 3 * t + 2) = nI (al t)
def zpc (m : Nat) : Nat := ((List.range 16).filter fun i => m.testBit i).length
def wfD (nj nw dm nf : Nat) (fw fo : Nat → Nat) : Prop := dm < 2 ^ nj ∧ zpc dm ≤ 6 ∧ nf ≤ 12 ∧ ∀ f, f < nf → fw f < nw ∧ fo f < 2
def dC (V : zI) (dm nf : Nat) (fw fo : Nat → Nat) : Prop := V 29 0 = nI dm ∧ V 29 1 = nI nf ∧ ∀ f, f < nf → V 30 f = nI (fw f) ∧ V 31 f = nI (fo f)
def dM (B : Nat → Int32) (dm nf : Nat) (fw fo : Nat → Nat) : Prop := B 9 = nI dm ∧ B 5 = nI nf ∧ ∀ f, f < nf → B (216 + 2 * f) = nI (fw f) ∧ B (216 + 2 * f + 1) = nI (fo f)
/-! texts: a TEXT as what is worked out, operand first: (0, number), (1, name), (sign, 0) -/
def zop (q : Nat × Nat) : Nat := match q with
  | (0, v) => v
  | (1, v) => 10000 + v
  | (124, _) => 20000
  | (38, _) => 20001
  | (60, _) => 20002
  | (61, _) => 20003
  | (62, _) => 20004
  | (43, _) => 20005
  | (45, _) => 20006
  | (42, _) => 20007
  | (47, _) => 20008
  | (37, _) => 20009
  | _ => 20010
/-- how many values stand on the pile behind the first so many parts, none if they don't fit -/
def zdep (nn : Nat) : List (Nat × Nat) → Option Nat
  | [] => some 0
  | q :: l => match zdep nn l with
    | none => none
    | some n => if q.1 = 0 then (if q.2 ≤ 9999 then some (n + 1) else none) else if q.1 = 1 then (if q.2 < nn then some (n + 1) else none) else if q.1 = 33 then (if 1 ≤ n then some n else none) else if q.1 ∈ [124, 38, 60, 61, 62, 43, 45, 42, 47, 37] then (if 2 ≤ n then some (n - 1) else none) else none
/-- a TEXT: its parts, the last first -/
def wfT (nn : Nat) (t : Option (List (Nat × Nat))) : Prop := match t with
  | none => True
  | some l => l.length ≤ 60 ∧ zdep nn l = some 1
def tC (V : zI) (c : Nat) (t : Option (List (Nat × Nat))) : Prop := match t with
  | none => V c 0 = 0
  | some l => V c 0 = 1 ∧ V c 1 = nI l.length ∧ ∀ k, k < l.length → V (c + 1) k = nI (l.reverse.getD k (0, 0)).1 ∧ V (c + 2) k = nI (l.reverse.getD k (0, 0)).2
def tM (B : Nat → Int32) (c : Nat) (t : Option (List (Nat × Nat))) : Prop := match t with
  | none => B c = 0
  | some l => B c = nI l.length ∧ ∀ k, k < l.length → B (c + 1 + k) = nI (zop (l.reverse.getD k (0, 0)))
/-- all that an image keeps -/
def rL (V : zI) (B : Nat → Int32) : Prop := ∃ (ns nj : Nat) (cs ea eb tt : Nat → Nat) (nw : Nat) (kd bg sp : Nat → Nat) (mk : Nat → Int32) (eg : Nat → Nat → Nat) (np : Nat) (pl hr : Nat → Nat) (nt : Nat) (ly wo al : Nat → Nat) (dm nf : Nat) (fw fo : Nat → Nat),
  (wfG ns nj cs ea eb tt ∧ gC V ns nj cs ea eb tt ∧ gM B ns nj cs ea eb tt) ∧ (wfW ns nw kd bg sp mk eg ∧ wC V nw kd bg sp mk eg ∧ wM B nw kd bg sp mk eg) ∧ (wfF ns np pl hr nt ly wo al ∧ fC V np pl hr nt ly wo al ∧ fM B np pl hr nt ly wo al) ∧ (wfD nj nw dm nf fw fo ∧ dC V dm nf fw fo ∧ dM B dm nf fw fo)
def rT (V : zI) (B : Nat → Int32) : Prop := (∃ t, wfT 4 t ∧ tC V 35 t ∧ tM B 324 t) ∧ (∃ t, wfT 3 t ∧ tC V 40 t ∧ tM B 386 t)
def rP (V : zI) (B : Nat → Int32) : Prop := (∃ (n : Nat) (b : Nat → Nat), n ≤ 60 ∧ V 1 7 = nI n ∧ B 6 = nI n ∧ ∀ k, k < n → b k < 256 ∧ V 45 k = nI (b k) ∧ B (240 + k) = nI (b k)) ∧
  (∃ n : Nat, n ≤ 24 ∧ V 1 9 = nI n ∧ B 7 = nI n ∧ ∀ k, k < n → B (300 + k) = V 46 k) ∧ B 8 = V 1 10
def rW (V : zI) (B : Nat → Int32) : Prop := rL V B ∧ rT V B ∧ rP V B
def zsh (I : zI) : zI := fun c => I (c + 46)
def rNum (x y : Int32) : Prop := x = y ∨ (128 ≤ x ∧ y < 0)
/-- sheets, errors, images, the trace -/
def rX (I J : zI) : Prop := (∀ s, s < 4 → J 12 s = I 94 s ∧ J 13 s = I 95 s ∧ (I 94 s = 0 ∨ I 94 s = 8 ∨ I 94 s = 16 ∨ I 94 s = 32) ∧ (∃ n, n ≤ 24 ∧ I 95 s = nI n) ∧ ∀ k, k < 24 → rNum (I (97 + s) k) (J 14 (24 * s + k))) ∧
  (∀ k, k < 7 → J 3 k = I 93 k) ∧ (J 0 2 = I 0 2) ∧ (I 0 2 = 0 ∨ rW (zsh I) (J 2)) ∧ (∃ n, n ≤ 30 ∧ I 184 1 = nI n ∧ J 0 25 = nI n ∧ ∀ k, k < n → J 11 k = I 185 k)
def rR (I J : zI) : Prop := rW I (J 1) ∧ rX I J
/-- what a pair of calls shows: both answer alike, and hold alike behind it -/
def zSim (a : Option (Int32 × zI)) (b : Option (Int32 × zI)) : Prop := ∃ (r : Int32) (I J : zI), a = some (r, I) ∧ b = some (r, J) ∧ rR I J
