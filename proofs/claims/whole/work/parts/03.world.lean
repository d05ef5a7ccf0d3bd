/-! THE ABSTRACT MACHINE: worlds as a shape (which cells there are), references and ints by cell and slot -/
abbrev zV : Type := Int32 ⊕ Int64 ⊕ Option Nat
abbrev zI : Type := Nat → Nat → Int32
abbrev zRf : Type := Nat → Nat → Option Nat
abbrev zK : Type := Nat ⊕ (Nat × Nat)
abbrev zS : Type := List zK × zRf × zI
def zcv (ad : Nat → Nat) (v : zV) : Value := match v with
  | .inl x => .int x
  | .inr (.inl x) => .long x
  | .inr (.inr r) => va_rf (r.map ad)
def zcat (v : zV) : Nat := match v with
  | .inr (.inl _) => 2
  | _ => 1
theorem zcv_cat (ad : Nat → Nat) (v : zV) : (zcv ad v).category = zcat v := by
  rcases v with x | x | r
  · rfl
  · rfl
  · cases r <;> rfl
def zIntT (t : FieldType) : Bool := match t with
  | .int => true
  | .boolean => true
  | _ => false
def zN (ci : Nat) : Nat := match zCl[ci]? with
  | some q => q.2.2
  | none => 0
def zfv (ad : Nat → Nat) (ci i : Nat) (R : zRf) (I : zI) (k : Nat) : Value := if zIntT (zTy ci k) then .int (I i k) else va_rf ((R i k).map ad)
def zfs (ad : Nat → Nat) (ci i : Nat) (R : zRf) (I : zI) : List Value := (List.range (zN ci)).map (zfv ad ci i R I)
def zen (ad : Nat → Nat) (cA : Nat → ClassId) (R : zRf) (I : zI) (i : Nat) (k : zK) : va_E := match k with
  | .inl ci => .inr (ci, zfs ad ci i R I)
  | .inr (0, n) => .inl (cA 0, n, .inl (I i))
  | .inr (t + 1, n) => .inl (cA (t + 1), n, .inr (.inr (.inr (.inr (fun j => (R i j).map ad)))))
def zW (ad : Nat → Nat) (cA : Nat → ClassId) (σ : zS) : va_W := σ.1.mapIdx (fun i k => (ad i, zen ad cA σ.2.1 σ.2.2 i k))
theorem zW_at {ad : Nat → Nat} {cA : Nat → ClassId} {σ : zS} {i : Nat} {k : zK} (h : σ.1[i]? = some k) : (zW ad cA σ)[i]? = some (ad i, zen ad cA σ.2.1 σ.2.2 i k) := by
  simp [zW, List.getElem?_mapIdx, h]
theorem zW_len {ad : Nat → Nat} {cA : Nat → ClassId} {σ : zS} : (zW ad cA σ).length = σ.1.length := by simp [zW]
def zTys (cA : Nat → ClassId) : List (ClassId × FieldType) := [(cA 0, .int), (cA 1, .array .int), (cA 2, .object "java/lang/String")]
/-- a row put in another's place; a slot's new value -/
def zrow (I : zI) (i : Nat) (f : Nat → Int32) : zI := fun a => if a = i then f else I a
def zup (I : zI) (i k : Nat) (x : Int32) : zI := fun a b => if a = i ∧ b = k then x else I a b
theorem zup_row (I : zI) (i k : Nat) (x : Int32) : zup I i k x = zrow I i (upd (I i) k x) := by
  funext a b
  unfold zup zrow upd
  by_cases h : a = i
  · subst h
    by_cases h2 : b = k <;> simp [h2]
  · simp [h]
theorem zen_other {ad : Nat → Nat} {cA : Nat → ClassId} {R : zRf} {I : zI} {i j : Nat} {f : Nat → Int32} (h : j ≠ i) (k : zK) : zen ad cA R (zrow I i f) j k = zen ad cA R I j k := by
  have e : zrow I i f j = I j := by unfold zrow; rw [if_neg h]
  rcases k with ci | ⟨t, n⟩
  · have e2 : zfs ad ci j R (zrow I i f) = zfs ad ci j R I := by
      unfold zfs
      apply List.map_congr_left
      intro k _
      unfold zfv
      rw [e]
    show Sum.inr (ci, zfs ad ci j R (zrow I i f)) = Sum.inr (ci, zfs ad ci j R I)
    rw [e2]
  · cases t with
    | zero =>
      show Sum.inl (cA 0, n, Sum.inl (zrow I i f j)) = Sum.inl (cA 0, n, Sum.inl (I j))
      rw [e]
    | succ t => rfl
theorem zW_setRow {ad : Nat → Nat} {cA : Nat → ClassId} {sh : List zK} {R : zRf} {I : zI} {i n : Nat} {f : Nat → Int32} (h : sh[i]? = some (.inr (0, n))) : (zW ad cA (sh, R, I)).set i (ad i, .inl (cA 0, n, .inl f)) = zW ad cA (sh, R, zrow I i f) := by
  apply List.ext_getElem?
  intro j
  have hl : i < (zW ad cA (sh, R, I)).length := by rw [zW_len]; exact (List.getElem?_eq_some_iff.mp h).1
  by_cases hj : j = i
  · subst hj
    rw [List.getElem?_set_self hl, zW_at (σ := (sh, R, zrow I j f)) h]
    have e : zrow I j f j = f := by unfold zrow; rw [if_pos rfl]
    show some (ad j, _) = some (ad j, Sum.inl (cA 0, n, Sum.inl (zrow I j f j)))
    rw [e]
  · rw [List.getElem?_set_ne (Ne.symm hj)]
    simp only [zW, List.getElem?_mapIdx]
    cases sh[j]? with
    | none => rfl
    | some k => simp [zen_other hj]
theorem zfs_set {ad : Nat → Nat} {ci i k : Nat} {R : zRf} {I : zI} {x : Int32} (hk : k < zN ci) (hi : zIntT (zTy ci k) = true) : (zfs ad ci i R I).set k (.int x) = zfs ad ci i R (zup I i k x) := by
  apply List.ext_getElem?
  intro j
  have hl : (zfs ad ci i R I).length = zN ci := by simp [zfs]
  by_cases hj : j = k
  · subst hj
    rw [List.getElem?_set_self (by rw [hl]; exact hk)]
    simp [zfs, zfv, hk, hi, zup]
  · rw [List.getElem?_set_ne (Ne.symm hj)]
    by_cases h : j < zN ci
    · simp [zfs, zfv, zup, hj, h]
    · rw [List.getElem?_eq_none (by rw [hl]; omega), List.getElem?_eq_none (by simp [zfs]; omega)]
theorem zW_setFld {ad : Nat → Nat} {cA : Nat → ClassId} {sh : List zK} {R : zRf} {I : zI} {i ci k : Nat} {x : Int32} (h : sh[i]? = some (.inl ci)) (hk : k < zN ci) (hi : zIntT (zTy ci k) = true) : (zW ad cA (sh, R, I)).set i (ad i, .inr (ci, (zfs ad ci i R I).set k (.int x))) = zW ad cA (sh, R, zup I i k x) := by
  apply List.ext_getElem?
  intro j
  have hl : i < (zW ad cA (sh, R, I)).length := by rw [zW_len]; exact (List.getElem?_eq_some_iff.mp h).1
  by_cases hj : j = i
  · subst hj
    rw [List.getElem?_set_self hl, zW_at (σ := (sh, R, zup I j k x)) h, zfs_set hk hi]
    rfl
  · rw [List.getElem?_set_ne (Ne.symm hj)]
    simp only [zW, List.getElem?_mapIdx]
    cases sh[j]? with
    | none => rfl
    | some q => simp [zup_row, zen_other hj]
/-! what stands outside: statics, tables, String constants, words on nest mates -/
def zXst : List (String × String × String × zV) := [("TurnedLand$Reader", "HOURS_NAMES", "[C", .inr (.inr (some 100000))), ("TurnedLand$Reader", "PRICE_NAMES", "[C", .inr (.inr (some 100001))), ("TurnedLand", "KIND_ABOVE", "[I", .inr (.inr (some 100002))), ("TurnedLand$Voices", "BODIES", "[I", .inr (.inr (some 100003))), ("java/lang/String", "COMPACT_STRINGS", "Z", .inl 1)]
def zLst (l : List Int32) : Nat → Int32 := fun j => l.getD j 0
def zXt : List (FieldType × Nat × Nat × List Int32) := [(.char, 100000, 4, [99, 100, 104, 106]), (.char, 100001, 3, [119, 97, 115]), (.int, 100002, 7, [-1, 0, 1, 1, 0, 0, 2]), (.int, 100003, 28, [10, 11, 12, 13, 20, 0, 0, 21, 0, 30, 0, 0, 41, 0, 40, 0, 0, 0, 50, 0, 60, 61, 0, 0, 70, 0, 0, 71]), (.byte, 100020, 4, [99, 100, 104, 106]), (.byte, 100021, 3, [119, 97, 115])]
def zXo : List (String × Nat) := [("java/lang/String", 100010), ("java/lang/String", 100011)]
def zXf : List (String × String × String × zV × Nat) := [("java/lang/String", "value", "[B", .inr (.inr (some 100020)), 100010), ("java/lang/String", "coder", "B", .inl 0, 100010), ("java/lang/String", "value", "[B", .inr (.inr (some 100021)), 100011), ("java/lang/String", "coder", "B", .inl 0, 100011)]
def zXn : List (String × Nat × MethodName × String) := [("TurnedLand", 11, ⟨"TurnedLand$World", "<init>", "()V"⟩, "TurnedLand"), ("TurnedLand$World", 20, ⟨"TurnedLand$Walks", "<init>", "()V"⟩, "TurnedLand"), ("TurnedLand$World", 27, ⟨"TurnedLand$Folk", "<init>", "()V"⟩, "TurnedLand"), ("TurnedLand$World", 34, ⟨"TurnedLand$Doubts", "<init>", "()V"⟩, "TurnedLand"), ("TurnedLand$World", 41, ⟨"TurnedLand$Text", "<init>", "()V"⟩, "TurnedLand"), ("TurnedLand", 40, ⟨"TurnedLand$Shape", "<init>", "()V"⟩, "TurnedLand"), ("TurnedLand", 47, ⟨"TurnedLand$Ways", "<init>", "()V"⟩, "TurnedLand"), ("TurnedLand", 57, ⟨"TurnedLand$Walker", "<init>", "()V"⟩, "TurnedLand"), ("TurnedLand", 64, ⟨"TurnedLand$Reader", "<init>", "()V"⟩, "TurnedLand"), ("TurnedLand", 71, ⟨"TurnedLand$Voices", "<init>", "()V"⟩, "TurnedLand"), ("TurnedLand$Ground", 43, ⟨"TurnedLand", "within", "(III)Z"⟩, "TurnedLand"), ("TurnedLand$Reader", 86, ⟨"TurnedLand", "within", "(III)Z"⟩, "TurnedLand"), ("TurnedLand$Text", 55, ⟨"TurnedLand", "within", "(III)Z"⟩, "TurnedLand"), ("TurnedLand$World", 104, ⟨"TurnedLand", "held", "(III)I"⟩, "TurnedLand"), ("TurnedLand$Walks", 39, ⟨"TurnedLand", "within", "(III)Z"⟩, "TurnedLand"), ("TurnedLand$Folk", 40, ⟨"TurnedLand", "within", "(III)Z"⟩, "TurnedLand"), ("TurnedLand$Voices", 36, ⟨"TurnedLand", "within", "(III)Z"⟩, "TurnedLand")]
def zXnf : List (String × Nat × String × String × String × String) := [("TurnedLand$Voices", 50, "TurnedLand", "KIND_ABOVE", "[I", "TurnedLand")]
def zAO (t : FieldType) (U : State) : Prop := (Cond.arrayOver t).before #[] U = true
/-- what the statics, the tables and the String constants hold; the words on nest mates -/
def zX (ad : Nat → Nat) (A : Nat → Prop) (U : State) (H : Heap) : Prop :=
  (∀ q ∈ zXst, va_Z q.1 q.2.1 q.2.2.1 (zcv ad q.2.2.2) A U H) ∧ (∀ q ∈ zXt, va_T q.1 (ad q.2.1) q.2.2.1 (fun j => .int (zLst q.2.2.2 j)) A U H) ∧ (∀ q ∈ zXo, va_O q.1 (ad q.2) A U H) ∧
  (∀ q ∈ zXf, va_OF q.1 q.2.1 q.2.2.1 (zcv ad q.2.2.2.1) (ad q.2.2.2.2) A U H) ∧ (∃ fx : Option Nat, (fx = none ∨ fx = some 100030) ∧ va_Z "jdk/internal/util/Preconditions" "SIOOBE_FORMATTER" "Ljava/util/function/BiFunction;" (zcv ad (.inr (.inr fx))) A U H) ∧
  vk_R "TurnedLandModel" 24 "cdhj" (ad 100010) U ∧ vk_R "TurnedLandModel" 26 "was" (ad 100011) U
/-- words that are not handed on with a call by themselves -/
def zY (U : State) : Prop := (∀ q ∈ zXn, va_Nw (.methodLinkNest q.1 q.2.1 q.2.2.1 q.2.2.2) U) ∧ (∀ q ∈ zXnf, va_Nw (.fieldLinkNest q.1 q.2.1 q.2.2.1 q.2.2.2.1 q.2.2.2.2.1 q.2.2.2.2.2) U) ∧ zAO (.array .int) U ∧ va_AO "java/lang/String" U
theorem zX.warm {ad : Nat → Nat} {A : Nat → Prop} {u U : State} {H : Heap} (hW : u.WarmedH U.vm) (h : zX ad A u H) : zX ad A U H := by
  have hvm := hW.alike
  obtain ⟨h1, h2, h3, h4, ⟨fx, h5⟩, h6, h7⟩ := h
  exact ⟨fun q hq => (h1 q hq).moved hvm, fun q hq => (h2 q hq).moved hvm, fun q hq => (h3 q hq).moved hvm, fun q hq => (h4 q hq).moved hvm, ⟨fx, h5.1, h5.2.moved hvm⟩, h6.warm hW, h7.warm hW⟩
theorem zX.kept {ad : Nat → Nat} {A : Nat → Prop} {U : State} {H H1 : Heap} (h : zX ad A U H) (hq : ∀ a : Nat, a < H.size → ¬ A a → H1[a]? = H[a]?) : zX ad A U H1 := by
  obtain ⟨h1, h2, h3, h4, ⟨fx, h5⟩, h6, h7⟩ := h
  exact ⟨fun q hq2 => (h1 q hq2).kept hq, fun q hq2 => (h2 q hq2).kept hq, fun q hq2 => (h3 q hq2).kept hq, fun q hq2 => (h4 q hq2).kept hq, ⟨fx, h5.1, h5.2.kept hq⟩, h6, h7⟩
theorem zX.narrow {ad : Nat → Nat} {A B : Nat → Prop} {U : State} {H : Heap} (h : zX ad A U H) (hAB : ∀ q, B q → A q) : zX ad B U H := by
  obtain ⟨h1, h2, h3, h4, ⟨fx, h5⟩, h6, h7⟩ := h
  exact ⟨fun q hq => (h1 q hq).narrow hAB, fun q hq => (h2 q hq).narrow hAB, fun q hq => (h3 q hq).narrow hAB, fun q hq => (h4 q hq).narrow hAB, ⟨fx, h5.1, h5.2.narrow hAB⟩, h6, h7⟩
/-- cells are made: addresses from n to n' are new -/
def zE (n n' : Nat) (ad ad' : Nat → Nat) : Prop := n ≤ n' ∧ n' ≤ 100000 ∧ ∀ i, (i < n ∨ n' ≤ i) → ad' i = ad i
theorem zE.rf {n : Nat} {ad : Nat → Nat} (h : n ≤ 100000) : zE n n ad ad := ⟨Nat.le_refl _, h, fun _ _ => rfl⟩
theorem zE.trans {n n' n'' : Nat} {ad ad' ad'' : Nat → Nat} (h : zE n n' ad ad') (h2 : zE n' n'' ad' ad'') : zE n n'' ad ad'' := ⟨Nat.le_trans h.1 h2.1, h2.2.1, fun i hi => by
  have a1 := h.1
  have a2 := h2.1
  rw [h2.2.2 i (by omega), h.2.2 i (by omega)]⟩
theorem zE.eq {n : Nat} {ad ad' : Nat → Nat} (h : zE n n ad ad') : ad' = ad := by
  funext i
  exact h.2.2 i (by omega)
/-- values that don't speak of cells to be made: below n, or outside -/
def zok (n : Nat) (v : zV) : Bool := match v with
  | .inr (.inr (some i)) => decide (i < n) || decide (100000 ≤ i)
  | _ => true
theorem zE.val {n n' : Nat} {ad ad' : Nat → Nat} (h : zE n n' ad ad') {v : zV} (hv : zok n v = true) : zcv ad' v = zcv ad v := by
  rcases v with x | x | r
  · rfl
  · rfl
  · cases r with
    | none => rfl
    | some i =>
      have h1 := h.2.1
      simp only [zok, Bool.or_eq_true, decide_eq_true_eq] at hv
      show va_rf (some (ad' i)) = va_rf (some (ad i))
      rw [h.2.2 i (by omega)]
theorem zE.vals {n n' : Nat} {ad ad' : Nat → Nat} (h : zE n n' ad ad') {l : List zV} (hl : l.all (zok n) = true) : l.map (zcv ad') = l.map (zcv ad) := List.map_congr_left (fun v hv => h.val (List.all_eq_true.mp hl v hv))
theorem zX.ext {n n' : Nat} {ad ad' : Nat → Nat} {A : Nat → Prop} {U : State} {H : Heap} (hE : zE n n' ad ad') (h : zX ad A U H) : zX ad' A U H := by
  obtain ⟨h1, h2, h3, h4, h5, hk1, hk2⟩ := h
  have hb := hE.2.1
  have e0 : ∀ i, 100000 ≤ i → ad' i = ad i := fun i hi => hE.2.2 i (by omega)
  refine ⟨fun q hq => ?_, fun q hq => ?_, fun q hq => ?_, fun q hq => ?_, ?_, by rw [e0 100010 (by omega)]; exact hk1, by rw [e0 100011 (by omega)]; exact hk2⟩
  · have := h1 q hq
    rw [hE.val (v := q.2.2.2)]
    · exact this
    · revert q; simp [zXst, zok]
  · have := h2 q hq
    rw [e0 q.2.1]
    · exact this
    · revert q; simp [zXt]
  · have := h3 q hq
    rw [e0 q.2]
    · exact this
    · revert q; simp [zXo]
  · have := h4 q hq
    rw [hE.val (v := q.2.2.2.1), e0 q.2.2.2.2]
    · exact this
    · revert q; simp [zXf]
    · revert q; simp [zXf, zok]
  · obtain ⟨fx, h6, h5⟩ := h5
    refine ⟨fx, h6, ?_⟩
    rw [hE.val (v := .inr (.inr fx))]
    · exact h5
    · rcases h6 with rfl | rfl <;> simp [zok]
theorem zAO_arr {u U : State} (hvm : u.vm.Alike U.vm) (h : zAO (.array .int) u) : zAO (.array .int) U := by
  simp only [zAO, Cond.before, Cond.holds, Cond.value, beq_iff_eq] at h ⊢
  cases hc : u.vm.findClass (FieldType.array .int).toString with
  | none => simp [hc] at h
  | some comp =>
    simp only [hc, Option.bind_some, Option.bind_eq_some_iff, Option.map_eq_some_iff] at h
    obtain ⟨c, hi, k, hk, hb⟩ := h
    obtain ⟨k', hk', he⟩ := hvm.2.2 _ _ hk
    have e1 := va_idx_bare U.vm comp
    have e2 := va_idx_bare u.vm comp
    have e3 : U.vm.bare = u.vm.bare := by first | exact hvm.bare_eq | exact hvm.bare_eq.symm
    rw [e3] at e1
    have hi' := e1.symm.trans (e2.trans hi)
    have f1 : U.vm.findClass (FieldType.array .int).toString = some comp := by rw [hvm.findClass]; exact hc
    have f2 : U.vm.findClass ("[" ++ (FieldType.array .int).toString) = u.vm.findClass ("[" ++ (FieldType.array .int).toString) := by rw [hvm.findClass]
    have ek : k'.kind = k.kind := by rw [he]
    simp only [f1, Option.bind_some, Option.bind_eq_some_iff, Option.map_eq_some_iff]
    refine ⟨c, hi', k', hk', ?_⟩
    rw [ek, f2]
    exact hb
theorem zY.warm {s U : State} (hW : s.WarmedH U.vm) (h : zY s) : zY U :=
  ⟨fun q hq => (h.1 q hq).warmM hW, fun q hq => (h.2.1 q hq).warmF hW, zAO_arr hW.alike h.2.2.1, h.2.2.2.moved hW.alike⟩
theorem zY.same {s U : State} (hv : s.vm = U.vm) (h : zY s) : zY U := zY.warm (by rw [← hv]; exact State.WarmedH.refl s) h
