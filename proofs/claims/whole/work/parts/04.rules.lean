/-! THE RULES: one instruction of a method over the abstract machine; zG: from here the method comes to its end with the answer r and the world σ' -/
abbrev zMt : Type := MethodName × ByteArray × Nat × Option FieldType
abbrev zRm (d mc ms : Nat) : Room := { frames := d, cells := mc, slots := ms, locals := 64 * d }
abbrev zWs (y : zMt) : List Cond := Cond.code y.1 y.2.1 y.2.2.1 y.2.2.2 :: zAll
def zD (cc : ByteArray) (pc : Nat) (i : Instr) (n pc' : Nat) : Prop := decode cc pc = .ok (i, n) ∧ pc + n = pc'
def zQ (dC : Nat → ClassId) (dI : Nat → Nat → Nat) (cA : Nat → ClassId) (ad0 : Nat → Nat) (n0 : Nat) (r : Option zV) (σ' : zS) (A : Nat → Prop) : Array Value → State → Outcome → State → Prop := fun _ st oc t =>
  (∃ ad' : Nat → Nat, zE n0 σ'.1.length ad0 ad' ∧ oc = .returned (r.map (zcv ad')) ∧ va_P (dC, dI) zCl (zW ad' cA σ') t.heap ∧ va_K (dC, dI) zCl (zTys cA) t ∧ va_D A (zW ad' cA σ')) ∧ va_F A st t
def zPre (dC : Nat → ClassId) (dI : Nat → Nat → Nat) (cA : Nat → ClassId) (ad : Nat → Nat) (σ : zS) (sz : Nat) (U : State) : Prop :=
  U.heap.size = sz ∧ σ.1.length ≤ 100000 ∧ va_P (dC, dI) zCl (zW ad cA σ) U.heap ∧ va_K (dC, dI) zCl (zTys cA) U ∧ va_D (fun _ => True) (zW ad cA σ) ∧ zX ad (va_A (zW ad cA σ) sz) U U.heap ∧ zY U
/-- a method's contract at depth d: with these arguments in this world it answers r and leaves that world; mc cells of ms slots are made -/
def zM (d : Nat) (y : zMt) (av : List zV) (σ : zS) (r : Option zV) (σ' : zS) (mc ms : Nat) : Prop :=
  ∀ (l : Launch) (dC : Nat → ClassId) (dI : Nat → Nat → Nat) (cA : Nat → ClassId) (ad : Nat → Nat) (sz : Nat), Met l y.1 (zWs y) (zRm d mc ms) (va_Pc (av.map (zcv ad)) (zPre dC dI cA ad σ sz)) (zQ dC dI cA ad σ.1.length r σ' (va_A (zW ad cA σ) sz)) mc ms (va_A (zW ad cA σ) sz)
def zCx (p : Program) (s : State) (m : MethodId) (args : Array Value) (meth : Method) (c : Code) (y : zMt) (A : Nat → Prop) (ad0 : Nat → Nat) : Prop :=
  p.tables.exec = Jvm.exec ∧ c.code = y.2.1 ∧ meth.sig.returnType = y.2.2.2 ∧ c.maxLocals = y.2.2.1 ∧ s.vm.findClass y.1.cls = some m.cls ∧ (∀ w ∈ zWs y, w.before args s = true) ∧ meth.locks = false ∧ (∀ q, s.heap.size ≤ q → A q) ∧ zX ad0 A s s.heap ∧ zY s ∧ meth.name = y.1.name
def zH (dC : Nat → ClassId) (dI : Nat → Nat → Nat) (cA : Nat → ClassId) (ad : Nat → Nat) (σ : zS) (A : Nat → Prop) (s : State) (H : Heap) (locs : List Loc) : Prop :=
  va_K (dC, dI) zCl (zTys cA) s ∧ va_P (dC, dI) zCl (zW ad cA σ) H ∧ va_D A (zW ad cA σ) ∧ va_S A s.heap H locs
def zLv (ad : Nat → Nat) (lv : List (Nat × zV)) : List (Nat × Value) := lv.map (fun q => (q.1, zcv ad q.2))
def zG (d : Nat) (y : zMt) (mc ms : Nat) (r : Option zV) (σ' : zS) (n0 pc : Nat) (lv : List (Nat × zV)) (st : List zV) (σ : zS) (cells slots : Nat) : Prop :=
  ∀ (p : Program) (l : Launch) (e : Env) (s : State) (m : MethodId) (args : Array Value) (below : List Frame) (meth : Method) (c : Code) (A : Nat → Prop) (dC : Nat → ClassId) (dI : Nat → Nat → Nat) (cA : Nat → ClassId) (ad0 ad : Nat → Nat) (H : Heap) (locs : List Loc) (ls : Array Slot),
    zCx p s m args meth c y A ad0 → zE n0 σ.1.length ad0 ad → zH dC dI cA ad σ A s H locs → lv_has ls y.2.2.1 (zLv ad lv) →
    W p l e (zRm d mc ms) s m args below meth c H locs cells slots (MQ below (zQ dC dI cA ad0 n0 r σ' A) args s mc ms A) (F0 m pc ls (st.map (zcv ad)))
theorem zLv_at {ad : Nat → Nat} {lv : List (Nat × zV)} {k i : Nat} {v : zV} (h : lv[k]? = some (i, v)) : (zLv ad lv)[k]? = some (i, zcv ad v) := by
  simp [zLv, h]
def zflt (i : Nat) (q : Nat × zV) : Bool := !(q.1 == i) && !(q.1 + 1 == i && zcat q.2 == 2)
theorem zflt_map (ad : Nat → Nat) (i : Nat) (lv : List (Nat × zV)) : (zLv ad lv).filter (fun q => !(q.1 == i) && !(q.1 + 1 == i && q.2.category == 2)) = zLv ad (lv.filter (zflt i)) := by
  unfold zLv
  rw [List.filter_map]
  congr 1
  apply List.filter_congr
  intro q _
  simp [zflt, Function.comp, zcv_cat]
section ZR
variable {d : Nat} {y : zMt} {mc ms : Nat} {r : Option zV} {σ' : zS} {n0 pc pc' : Nat} {lv lv' : List (Nat × zV)} {st : List zV} {σ : zS} {cells slots : Nat}
theorem zg_iconst {n : Int} {v : Int32} (hd : zD y.2.1 pc (.iconst n) 1 pc') (hv : Int32.ofInt n = v) (k : zG d y mc ms r σ' n0 pc' lv (.inl v :: st) σ cells slots) : zG d y mc ms r σ' n0 pc lv st σ cells slots := by
  obtain ⟨hd, rfl⟩ := hd
  intro p l e s m args below meth c A dC dI cA ad0 ad H locs ls cx hE hH hl
  exact lv_iconst cx.1 cx.2.1 hd hv (k p l e s m args below meth c A dC dI cA ad0 ad H locs ls cx hE hH hl)
theorem zg_bipush {n : Int} {v : Int32} (hd : zD y.2.1 pc (.bipush n) 2 pc') (hv : (Int8.ofInt n).toInt32 = v) (k : zG d y mc ms r σ' n0 pc' lv (.inl v :: st) σ cells slots) : zG d y mc ms r σ' n0 pc lv st σ cells slots := by
  obtain ⟨hd, rfl⟩ := hd
  intro p l e s m args below meth c A dC dI cA ad0 ad H locs ls cx hE hH hl
  exact lv_bipush cx.1 cx.2.1 hd hv (k p l e s m args below meth c A dC dI cA ad0 ad H locs ls cx hE hH hl)
theorem zg_sipush {n : Int} {v : Int32} (hd : zD y.2.1 pc (.sipush n) 3 pc') (hv : (Int16.ofInt n).toInt32 = v) (k : zG d y mc ms r σ' n0 pc' lv (.inl v :: st) σ cells slots) : zG d y mc ms r σ' n0 pc lv st σ cells slots := by
  obtain ⟨hd, rfl⟩ := hd
  intro p l e s m args below meth c A dC dI cA ad0 ad H locs ls cx hE hH hl
  exact lv_sipush cx.1 cx.2.1 hd hv (k p l e s m args below meth c A dC dI cA ad0 ad H locs ls cx hE hH hl)
theorem zg_ldc {ix : Nat} {v : Int32} (hd : zD y.2.1 pc (.ldc ix) 2 pc') (hw : Cond.constant y.1.cls ix v ∈ zAll) (k : zG d y mc ms r σ' n0 pc' lv (.inl v :: st) σ cells slots) : zG d y mc ms r σ' n0 pc lv st σ cells slots := by
  obtain ⟨hd, rfl⟩ := hd
  intro p l e s m args below meth c A dC dI cA ad0 ad H locs ls cx hE hH hl
  exact lv_ldc cx.1 cx.2.1 cx.2.2.2.2.1 (cx.2.2.2.2.2.1 _ (List.mem_cons_of_mem _ hw)) hd (k p l e s m args below meth c A dC dI cA ad0 ad H locs ls cx hE hH hl)
theorem zg_ldcw {ix : Nat} {v : Int32} (hd : zD y.2.1 pc (.ldc_w ix) 3 pc') (hw : Cond.constant y.1.cls ix v ∈ zAll) (k : zG d y mc ms r σ' n0 pc' lv (.inl v :: st) σ cells slots) : zG d y mc ms r σ' n0 pc lv st σ cells slots := by
  obtain ⟨hd, rfl⟩ := hd
  intro p l e s m args below meth c A dC dI cA ad0 ad H locs ls cx hE hH hl
  exact lv_ldcw cx.1 cx.2.1 cx.2.2.2.2.1 (cx.2.2.2.2.2.1 _ (List.mem_cons_of_mem _ hw)) hd (k p l e s m args below meth c A dC dI cA ad0 ad H locs ls cx hE hH hl)
theorem zg_ldc2 {ix : Nat} {v : Int64} (hd : zD y.2.1 pc (.ldc2_w ix) 3 pc') (hw : Cond.constantLong y.1.cls ix v ∈ zAll) (k : zG d y mc ms r σ' n0 pc' lv (.inr (.inl v) :: st) σ cells slots) : zG d y mc ms r σ' n0 pc lv st σ cells slots := by
  obtain ⟨hd, rfl⟩ := hd
  intro p l e s m args below meth c A dC dI cA ad0 ad H locs ls cx hE hH hl
  exact lv_ldc2 cx.1 cx.2.1 cx.2.2.2.2.1 (cx.2.2.2.2.2.1 _ (List.mem_cons_of_mem _ hw)) hd (k p l e s m args below meth c A dC dI cA ad0 ad H locs ls cx hE hH hl)
theorem zg_iload_n {kk : Fin 4} {i j : Nat} {x : Int32} (hd : zD y.2.1 pc (.iload_n kk) 1 pc') (hi : (kk : Nat) = i) (hx : lv[j]? = some (i, .inl x)) (k : zG d y mc ms r σ' n0 pc' lv (.inl x :: st) σ cells slots) : zG d y mc ms r σ' n0 pc lv st σ cells slots := by
  obtain ⟨hd, rfl⟩ := hd
  intro p l e s m args below meth c A dC dI cA ad0 ad H locs ls cx hE hH hl
  exact lv_iload_n cx.1 cx.2.1 hd hi (lv_at hl j (zLv_at hx)) (k p l e s m args below meth c A dC dI cA ad0 ad H locs ls cx hE hH hl)
theorem zg_iload {i j : Nat} {x : Int32} (hd : zD y.2.1 pc (.iload i) 2 pc') (hx : lv[j]? = some (i, .inl x)) (k : zG d y mc ms r σ' n0 pc' lv (.inl x :: st) σ cells slots) : zG d y mc ms r σ' n0 pc lv st σ cells slots := by
  obtain ⟨hd, rfl⟩ := hd
  intro p l e s m args below meth c A dC dI cA ad0 ad H locs ls cx hE hH hl
  exact lv_iload cx.1 cx.2.1 hd (lv_at hl j (zLv_at hx)) (k p l e s m args below meth c A dC dI cA ad0 ad H locs ls cx hE hH hl)
theorem zg_lload_n {kk : Fin 4} {i j : Nat} {x : Int64} (hd : zD y.2.1 pc (.lload_n kk) 1 pc') (hi : (kk : Nat) = i) (hx : lv[j]? = some (i, .inr (.inl x))) (k : zG d y mc ms r σ' n0 pc' lv (.inr (.inl x) :: st) σ cells slots) : zG d y mc ms r σ' n0 pc lv st σ cells slots := by
  obtain ⟨hd, rfl⟩ := hd
  intro p l e s m args below meth c A dC dI cA ad0 ad H locs ls cx hE hH hl
  exact lv_lload_n cx.1 cx.2.1 hd hi (lv_at hl j (zLv_at hx)) (k p l e s m args below meth c A dC dI cA ad0 ad H locs ls cx hE hH hl)
theorem zg_aload_n {kk : Fin 4} {i j x : Nat} (hd : zD y.2.1 pc (.aload_n kk) 1 pc') (hi : (kk : Nat) = i) (hx : lv[j]? = some (i, .inr (.inr (some x)))) (k : zG d y mc ms r σ' n0 pc' lv (.inr (.inr (some x)) :: st) σ cells slots) : zG d y mc ms r σ' n0 pc lv st σ cells slots := by
  obtain ⟨hd, rfl⟩ := hd
  intro p l e s m args below meth c A dC dI cA ad0 ad H locs ls cx hE hH hl
  exact lv_aload_n cx.1 cx.2.1 hd hi (lv_at hl j (zLv_at hx)) (k p l e s m args below meth c A dC dI cA ad0 ad H locs ls cx hE hH hl)
theorem zg_aload {i j x : Nat} (hd : zD y.2.1 pc (.aload i) 2 pc') (hx : lv[j]? = some (i, .inr (.inr (some x)))) (k : zG d y mc ms r σ' n0 pc' lv (.inr (.inr (some x)) :: st) σ cells slots) : zG d y mc ms r σ' n0 pc lv st σ cells slots := by
  obtain ⟨hd, rfl⟩ := hd
  intro p l e s m args below meth c A dC dI cA ad0 ad H locs ls cx hE hH hl
  exact lv_aload cx.1 cx.2.1 hd (lv_at hl j (zLv_at hx)) (k p l e s m args below meth c A dC dI cA ad0 ad H locs ls cx hE hH hl)
theorem zg_istore_n {kk : Fin 4} {i : Nat} {x : Int32} (hd : zD y.2.1 pc (.istore_n kk) 1 pc') (hi : (kk : Nat) = i) (hn : i < y.2.2.1) (hv : (i, .inl x) :: lv.filter (zflt i) = lv') (k : zG d y mc ms r σ' n0 pc' lv' st σ cells slots) : zG d y mc ms r σ' n0 pc lv (.inl x :: st) σ cells slots := by
  obtain ⟨hd, rfl⟩ := hd
  intro p l e s m args below meth c A dC dI cA ad0 ad H locs ls cx hE hH hl
  subst hv
  refine lv_istore_n cx.1 cx.2.1 hd hi hl hn rfl (fun ls' hl' => k p l e s m args below meth c A dC dI cA ad0 ad H locs ls' cx hE hH ?_)
  rw [zflt_map] at hl'
  exact hl'
theorem zg_istore {i : Nat} {x : Int32} (hd : zD y.2.1 pc (.istore i) 2 pc') (hn : i < y.2.2.1) (hv : (i, .inl x) :: lv.filter (zflt i) = lv') (k : zG d y mc ms r σ' n0 pc' lv' st σ cells slots) : zG d y mc ms r σ' n0 pc lv (.inl x :: st) σ cells slots := by
  obtain ⟨hd, rfl⟩ := hd
  intro p l e s m args below meth c A dC dI cA ad0 ad H locs ls cx hE hH hl
  subst hv
  refine lv_istore cx.1 cx.2.1 hd hl hn rfl (fun ls' hl' => k p l e s m args below meth c A dC dI cA ad0 ad H locs ls' cx hE hH ?_)
  rw [zflt_map] at hl'
  exact hl'
theorem zg_astore_n {kk : Fin 4} {i x : Nat} (hd : zD y.2.1 pc (.astore_n kk) 1 pc') (hi : (kk : Nat) = i) (hn : i < y.2.2.1) (hv : (i, .inr (.inr (some x))) :: lv.filter (zflt i) = lv') (k : zG d y mc ms r σ' n0 pc' lv' st σ cells slots) : zG d y mc ms r σ' n0 pc lv (.inr (.inr (some x)) :: st) σ cells slots := by
  obtain ⟨hd, rfl⟩ := hd
  intro p l e s m args below meth c A dC dI cA ad0 ad H locs ls cx hE hH hl
  subst hv
  refine lv_astore_n cx.1 cx.2.1 hd hi hl hn rfl (fun ls' hl' => k p l e s m args below meth c A dC dI cA ad0 ad H locs ls' cx hE hH ?_)
  rw [zflt_map] at hl'
  exact hl'
theorem zg_astore {i x : Nat} (hd : zD y.2.1 pc (.astore i) 2 pc') (hn : i < y.2.2.1) (hv : (i, .inr (.inr (some x))) :: lv.filter (zflt i) = lv') (k : zG d y mc ms r σ' n0 pc' lv' st σ cells slots) : zG d y mc ms r σ' n0 pc lv (.inr (.inr (some x)) :: st) σ cells slots := by
  obtain ⟨hd, rfl⟩ := hd
  intro p l e s m args below meth c A dC dI cA ad0 ad H locs ls cx hE hH hl
  subst hv
  refine lv_astore cx.1 cx.2.1 hd hl hn rfl (fun ls' hl' => k p l e s m args below meth c A dC dI cA ad0 ad H locs ls' cx hE hH ?_)
  rw [zflt_map] at hl'
  exact hl'
theorem zg_iinc {i j : Nat} {n : Int} {x v : Int32} (hd : zD y.2.1 pc (.iinc i n) 3 pc') (hx : lv[j]? = some (i, .inl x)) (hw : x + Int32.ofInt n = v) (hn : i < y.2.2.1) (hv : (i, .inl v) :: lv.filter (zflt i) = lv') (k : zG d y mc ms r σ' n0 pc' lv' st σ cells slots) : zG d y mc ms r σ' n0 pc lv st σ cells slots := by
  obtain ⟨hd, rfl⟩ := hd
  intro p l e s m args below meth c A dC dI cA ad0 ad H locs ls cx hE hH hl
  subst hv
  refine lv_iinc (k := j) (v := v) cx.1 cx.2.1 hd hl (zLv_at hx) hw hn rfl (fun ls' hl' => k p l e s m args below meth c A dC dI cA ad0 ad H locs ls' cx hE hH ?_)
  rw [zflt_map] at hl'
  exact hl'
/-- fewer locals, by their places -/
theorem zg_sub (ks : List Nat) (hv : ks.filterMap (fun k => lv[k]?) = lv') (k : zG d y mc ms r σ' n0 pc lv' st σ cells slots) : zG d y mc ms r σ' n0 pc lv st σ cells slots := by
  intro p l e s m args below meth c A dC dI cA ad0 ad H locs ls cx hE hH hl
  refine k p l e s m args below meth c A dC dI cA ad0 ad H locs ls cx hE hH (lv_sub hl ks ?_)
  subst hv
  unfold lv_pick zLv
  rw [List.map_filterMap]
  congr 1
  funext k
  simp
def zush (a b : Int32) : Int32 := (a.toUInt32 >>> (b.toUInt32 &&& Int32.toUInt32 31)).toInt32
def zlushr (a : Int64) (b : Int32) : Int64 := (a.toUInt64 >>> (b.toInt64.toUInt64 &&& Int64.toUInt64 63)).toInt64
def zlshl (a : Int64) (b : Int32) : Int64 := a <<< (b.toInt64 &&& 63)
def zlshr (a : Int64) (b : Int32) : Int64 := a >>> (b.toInt64 &&& 63)
theorem zg_iadd {a b : Int32} (hd : zD y.2.1 pc .iadd 1 pc') (k : zG d y mc ms r σ' n0 pc' lv (.inl (a + b) :: st) σ cells slots) : zG d y mc ms r σ' n0 pc lv (.inl b :: .inl a :: st) σ cells slots := by
  obtain ⟨hd, rfl⟩ := hd
  intro p l e s m args below meth c A dC dI cA ad0 ad H locs ls cx hE hH hl
  exact lv_iadd cx.1 cx.2.1 hd (k p l e s m args below meth c A dC dI cA ad0 ad H locs ls cx hE hH hl)
theorem zg_isub {a b : Int32} (hd : zD y.2.1 pc .isub 1 pc') (k : zG d y mc ms r σ' n0 pc' lv (.inl (a - b) :: st) σ cells slots) : zG d y mc ms r σ' n0 pc lv (.inl b :: .inl a :: st) σ cells slots := by
  obtain ⟨hd, rfl⟩ := hd
  intro p l e s m args below meth c A dC dI cA ad0 ad H locs ls cx hE hH hl
  exact lv_isub cx.1 cx.2.1 hd (k p l e s m args below meth c A dC dI cA ad0 ad H locs ls cx hE hH hl)
theorem zg_imul {a b : Int32} (hd : zD y.2.1 pc .imul 1 pc') (k : zG d y mc ms r σ' n0 pc' lv (.inl (a * b) :: st) σ cells slots) : zG d y mc ms r σ' n0 pc lv (.inl b :: .inl a :: st) σ cells slots := by
  obtain ⟨hd, rfl⟩ := hd
  intro p l e s m args below meth c A dC dI cA ad0 ad H locs ls cx hE hH hl
  exact lv_imul cx.1 cx.2.1 hd (k p l e s m args below meth c A dC dI cA ad0 ad H locs ls cx hE hH hl)
theorem zg_iand {a b : Int32} (hd : zD y.2.1 pc .iand 1 pc') (k : zG d y mc ms r σ' n0 pc' lv (.inl (a &&& b) :: st) σ cells slots) : zG d y mc ms r σ' n0 pc lv (.inl b :: .inl a :: st) σ cells slots := by
  obtain ⟨hd, rfl⟩ := hd
  intro p l e s m args below meth c A dC dI cA ad0 ad H locs ls cx hE hH hl
  exact lv_iand cx.1 cx.2.1 hd (k p l e s m args below meth c A dC dI cA ad0 ad H locs ls cx hE hH hl)
theorem zg_ior {a b : Int32} (hd : zD y.2.1 pc .ior 1 pc') (k : zG d y mc ms r σ' n0 pc' lv (.inl (a ||| b) :: st) σ cells slots) : zG d y mc ms r σ' n0 pc lv (.inl b :: .inl a :: st) σ cells slots := by
  obtain ⟨hd, rfl⟩ := hd
  intro p l e s m args below meth c A dC dI cA ad0 ad H locs ls cx hE hH hl
  exact lv_ior cx.1 cx.2.1 hd (k p l e s m args below meth c A dC dI cA ad0 ad H locs ls cx hE hH hl)
theorem zg_ixor {a b : Int32} (hd : zD y.2.1 pc .ixor 1 pc') (k : zG d y mc ms r σ' n0 pc' lv (.inl (a ^^^ b) :: st) σ cells slots) : zG d y mc ms r σ' n0 pc lv (.inl b :: .inl a :: st) σ cells slots := by
  obtain ⟨hd, rfl⟩ := hd
  intro p l e s m args below meth c A dC dI cA ad0 ad H locs ls cx hE hH hl
  exact lv_ixor cx.1 cx.2.1 hd (k p l e s m args below meth c A dC dI cA ad0 ad H locs ls cx hE hH hl)
theorem zg_ishl {a b : Int32} (hd : zD y.2.1 pc .ishl 1 pc') (k : zG d y mc ms r σ' n0 pc' lv (.inl (a <<< (b &&& 31)) :: st) σ cells slots) : zG d y mc ms r σ' n0 pc lv (.inl b :: .inl a :: st) σ cells slots := by
  obtain ⟨hd, rfl⟩ := hd
  intro p l e s m args below meth c A dC dI cA ad0 ad H locs ls cx hE hH hl
  exact lv_ishl cx.1 cx.2.1 hd (k p l e s m args below meth c A dC dI cA ad0 ad H locs ls cx hE hH hl)
theorem zg_ishr {a b : Int32} (hd : zD y.2.1 pc .ishr 1 pc') (k : zG d y mc ms r σ' n0 pc' lv (.inl (a >>> (b &&& 31)) :: st) σ cells slots) : zG d y mc ms r σ' n0 pc lv (.inl b :: .inl a :: st) σ cells slots := by
  obtain ⟨hd, rfl⟩ := hd
  intro p l e s m args below meth c A dC dI cA ad0 ad H locs ls cx hE hH hl
  exact lv_ishr cx.1 cx.2.1 hd (k p l e s m args below meth c A dC dI cA ad0 ad H locs ls cx hE hH hl)
theorem zg_iushr {a b : Int32} (hd : zD y.2.1 pc .iushr 1 pc') (k : zG d y mc ms r σ' n0 pc' lv (.inl (zush a b) :: st) σ cells slots) : zG d y mc ms r σ' n0 pc lv (.inl b :: .inl a :: st) σ cells slots := by
  obtain ⟨hd, rfl⟩ := hd
  intro p l e s m args below meth c A dC dI cA ad0 ad H locs ls cx hE hH hl
  exact lv_iushr cx.1 cx.2.1 hd rfl (k p l e s m args below meth c A dC dI cA ad0 ad H locs ls cx hE hH hl)
theorem zg_idiv {a b : Int32} (hd : zD y.2.1 pc .idiv 1 pc') (hb : ¬ b = 0) (k : zG d y mc ms r σ' n0 pc' lv (.inl (a / b) :: st) σ cells slots) : zG d y mc ms r σ' n0 pc lv (.inl b :: .inl a :: st) σ cells slots := by
  obtain ⟨hd, rfl⟩ := hd
  intro p l e s m args below meth c A dC dI cA ad0 ad H locs ls cx hE hH hl
  exact lv_idiv cx.1 cx.2.1 hd hb (k p l e s m args below meth c A dC dI cA ad0 ad H locs ls cx hE hH hl)
theorem zg_irem {a b : Int32} (hd : zD y.2.1 pc .irem 1 pc') (hb : ¬ b = 0) (k : zG d y mc ms r σ' n0 pc' lv (.inl (a % b) :: st) σ cells slots) : zG d y mc ms r σ' n0 pc lv (.inl b :: .inl a :: st) σ cells slots := by
  rw [← irem_eq_mod] at k
  obtain ⟨hd, rfl⟩ := hd
  intro p l e s m args below meth c A dC dI cA ad0 ad H locs ls cx hE hH hl
  exact lv_irem cx.1 cx.2.1 hd hb (k p l e s m args below meth c A dC dI cA ad0 ad H locs ls cx hE hH hl)
theorem zg_ineg {a : Int32} (hd : zD y.2.1 pc .ineg 1 pc') (k : zG d y mc ms r σ' n0 pc' lv (.inl (-a) :: st) σ cells slots) : zG d y mc ms r σ' n0 pc lv (.inl a :: st) σ cells slots := by
  obtain ⟨hd, rfl⟩ := hd
  intro p l e s m args below meth c A dC dI cA ad0 ad H locs ls cx hE hH hl
  exact lv_ineg cx.1 cx.2.1 hd (k p l e s m args below meth c A dC dI cA ad0 ad H locs ls cx hE hH hl)
theorem zg_ladd {a b : Int64} (hd : zD y.2.1 pc .ladd 1 pc') (k : zG d y mc ms r σ' n0 pc' lv (.inr (.inl (a + b)) :: st) σ cells slots) : zG d y mc ms r σ' n0 pc lv (.inr (.inl b) :: .inr (.inl a) :: st) σ cells slots := by
  obtain ⟨hd, rfl⟩ := hd
  intro p l e s m args below meth c A dC dI cA ad0 ad H locs ls cx hE hH hl
  exact lv_ladd cx.1 cx.2.1 hd (k p l e s m args below meth c A dC dI cA ad0 ad H locs ls cx hE hH hl)
theorem zg_lsub {a b : Int64} (hd : zD y.2.1 pc .lsub 1 pc') (k : zG d y mc ms r σ' n0 pc' lv (.inr (.inl (a - b)) :: st) σ cells slots) : zG d y mc ms r σ' n0 pc lv (.inr (.inl b) :: .inr (.inl a) :: st) σ cells slots := by
  obtain ⟨hd, rfl⟩ := hd
  intro p l e s m args below meth c A dC dI cA ad0 ad H locs ls cx hE hH hl
  exact lv_lsub cx.1 cx.2.1 hd (k p l e s m args below meth c A dC dI cA ad0 ad H locs ls cx hE hH hl)
theorem zg_lmul {a b : Int64} (hd : zD y.2.1 pc .lmul 1 pc') (k : zG d y mc ms r σ' n0 pc' lv (.inr (.inl (a * b)) :: st) σ cells slots) : zG d y mc ms r σ' n0 pc lv (.inr (.inl b) :: .inr (.inl a) :: st) σ cells slots := by
  obtain ⟨hd, rfl⟩ := hd
  intro p l e s m args below meth c A dC dI cA ad0 ad H locs ls cx hE hH hl
  exact lv_lmul cx.1 cx.2.1 hd (k p l e s m args below meth c A dC dI cA ad0 ad H locs ls cx hE hH hl)
theorem zg_land {a b : Int64} (hd : zD y.2.1 pc .land 1 pc') (k : zG d y mc ms r σ' n0 pc' lv (.inr (.inl (a &&& b)) :: st) σ cells slots) : zG d y mc ms r σ' n0 pc lv (.inr (.inl b) :: .inr (.inl a) :: st) σ cells slots := by
  obtain ⟨hd, rfl⟩ := hd
  intro p l e s m args below meth c A dC dI cA ad0 ad H locs ls cx hE hH hl
  exact lv_land cx.1 cx.2.1 hd (k p l e s m args below meth c A dC dI cA ad0 ad H locs ls cx hE hH hl)
theorem zg_lor {a b : Int64} (hd : zD y.2.1 pc .lor 1 pc') (k : zG d y mc ms r σ' n0 pc' lv (.inr (.inl (a ||| b)) :: st) σ cells slots) : zG d y mc ms r σ' n0 pc lv (.inr (.inl b) :: .inr (.inl a) :: st) σ cells slots := by
  obtain ⟨hd, rfl⟩ := hd
  intro p l e s m args below meth c A dC dI cA ad0 ad H locs ls cx hE hH hl
  exact lv_lor cx.1 cx.2.1 hd (k p l e s m args below meth c A dC dI cA ad0 ad H locs ls cx hE hH hl)
theorem zg_lxor {a b : Int64} (hd : zD y.2.1 pc .lxor 1 pc') (k : zG d y mc ms r σ' n0 pc' lv (.inr (.inl (a ^^^ b)) :: st) σ cells slots) : zG d y mc ms r σ' n0 pc lv (.inr (.inl b) :: .inr (.inl a) :: st) σ cells slots := by
  obtain ⟨hd, rfl⟩ := hd
  intro p l e s m args below meth c A dC dI cA ad0 ad H locs ls cx hE hH hl
  exact lv_lxor cx.1 cx.2.1 hd (k p l e s m args below meth c A dC dI cA ad0 ad H locs ls cx hE hH hl)
theorem zg_lshl {a : Int64} {b : Int32} (hd : zD y.2.1 pc .lshl 1 pc') (k : zG d y mc ms r σ' n0 pc' lv (.inr (.inl (zlshl a b)) :: st) σ cells slots) : zG d y mc ms r σ' n0 pc lv (.inl b :: .inr (.inl a) :: st) σ cells slots := by
  obtain ⟨hd, rfl⟩ := hd
  intro p l e s m args below meth c A dC dI cA ad0 ad H locs ls cx hE hH hl
  exact lv_lshl cx.1 cx.2.1 hd rfl (k p l e s m args below meth c A dC dI cA ad0 ad H locs ls cx hE hH hl)
theorem zg_lshr {a : Int64} {b : Int32} (hd : zD y.2.1 pc .lshr 1 pc') (k : zG d y mc ms r σ' n0 pc' lv (.inr (.inl (zlshr a b)) :: st) σ cells slots) : zG d y mc ms r σ' n0 pc lv (.inl b :: .inr (.inl a) :: st) σ cells slots := by
  obtain ⟨hd, rfl⟩ := hd
  intro p l e s m args below meth c A dC dI cA ad0 ad H locs ls cx hE hH hl
  exact lv_lshr cx.1 cx.2.1 hd rfl (k p l e s m args below meth c A dC dI cA ad0 ad H locs ls cx hE hH hl)
theorem zg_lushr {a : Int64} {b : Int32} (hd : zD y.2.1 pc .lushr 1 pc') (k : zG d y mc ms r σ' n0 pc' lv (.inr (.inl (zlushr a b)) :: st) σ cells slots) : zG d y mc ms r σ' n0 pc lv (.inl b :: .inr (.inl a) :: st) σ cells slots := by
  obtain ⟨hd, rfl⟩ := hd
  intro p l e s m args below meth c A dC dI cA ad0 ad H locs ls cx hE hH hl
  exact lv_lushr cx.1 cx.2.1 hd rfl (k p l e s m args below meth c A dC dI cA ad0 ad H locs ls cx hE hH hl)
theorem zg_i2l {a : Int32} (hd : zD y.2.1 pc .i2l 1 pc') (k : zG d y mc ms r σ' n0 pc' lv (.inr (.inl a.toInt64) :: st) σ cells slots) : zG d y mc ms r σ' n0 pc lv (.inl a :: st) σ cells slots := by
  obtain ⟨hd, rfl⟩ := hd
  intro p l e s m args below meth c A dC dI cA ad0 ad H locs ls cx hE hH hl
  exact lv_i2l cx.1 cx.2.1 hd rfl (k p l e s m args below meth c A dC dI cA ad0 ad H locs ls cx hE hH hl)
theorem zg_i2b {a : Int32} (hd : zD y.2.1 pc .i2b 1 pc') (k : zG d y mc ms r σ' n0 pc' lv (.inl a.toInt8.toInt32 :: st) σ cells slots) : zG d y mc ms r σ' n0 pc lv (.inl a :: st) σ cells slots := by
  obtain ⟨hd, rfl⟩ := hd
  intro p l e s m args below meth c A dC dI cA ad0 ad H locs ls cx hE hH hl
  exact lv_i2b cx.1 cx.2.1 hd rfl (k p l e s m args below meth c A dC dI cA ad0 ad H locs ls cx hE hH hl)
theorem zg_i2s {a : Int32} (hd : zD y.2.1 pc .i2s 1 pc') (k : zG d y mc ms r σ' n0 pc' lv (.inl a.toInt16.toInt32 :: st) σ cells slots) : zG d y mc ms r σ' n0 pc lv (.inl a :: st) σ cells slots := by
  obtain ⟨hd, rfl⟩ := hd
  intro p l e s m args below meth c A dC dI cA ad0 ad H locs ls cx hE hH hl
  exact lv_i2s cx.1 cx.2.1 hd rfl (k p l e s m args below meth c A dC dI cA ad0 ad H locs ls cx hE hH hl)
theorem zg_i2c {a : Int32} (hd : zD y.2.1 pc .i2c 1 pc') (k : zG d y mc ms r σ' n0 pc' lv (.inl (a.toUInt32 % 65536).toInt32 :: st) σ cells slots) : zG d y mc ms r σ' n0 pc lv (.inl a :: st) σ cells slots := by
  obtain ⟨hd, rfl⟩ := hd
  intro p l e s m args below meth c A dC dI cA ad0 ad H locs ls cx hE hH hl
  exact lv_i2c cx.1 cx.2.1 hd rfl (k p l e s m args below meth c A dC dI cA ad0 ad H locs ls cx hE hH hl)
theorem zg_l2i {a : Int64} (hd : zD y.2.1 pc .l2i 1 pc') (k : zG d y mc ms r σ' n0 pc' lv (.inl a.toInt32 :: st) σ cells slots) : zG d y mc ms r σ' n0 pc lv (.inr (.inl a) :: st) σ cells slots := by
  obtain ⟨hd, rfl⟩ := hd
  intro p l e s m args below meth c A dC dI cA ad0 ad H locs ls cx hE hH hl
  exact lv_l2i cx.1 cx.2.1 hd rfl (k p l e s m args below meth c A dC dI cA ad0 ad H locs ls cx hE hH hl)
theorem zg_dup {a : zV} (hd : zD y.2.1 pc .dup 1 pc') (ha : zcat a = 1) (k : zG d y mc ms r σ' n0 pc' lv (a :: a :: st) σ cells slots) : zG d y mc ms r σ' n0 pc lv (a :: st) σ cells slots := by
  obtain ⟨hd, rfl⟩ := hd
  intro p l e s m args below meth c A dC dI cA ad0 ad H locs ls cx hE hH hl
  exact lv_dup cx.1 cx.2.1 hd ((zcv_cat ad a).trans ha) (k p l e s m args below meth c A dC dI cA ad0 ad H locs ls cx hE hH hl)
theorem zg_pop {a : zV} (hd : zD y.2.1 pc .pop 1 pc') (ha : zcat a = 1) (k : zG d y mc ms r σ' n0 pc' lv (st) σ cells slots) : zG d y mc ms r σ' n0 pc lv (a :: st) σ cells slots := by
  obtain ⟨hd, rfl⟩ := hd
  intro p l e s m args below meth c A dC dI cA ad0 ad H locs ls cx hE hH hl
  exact lv_pop cx.1 cx.2.1 hd ((zcv_cat ad a).trans ha) (k p l e s m args below meth c A dC dI cA ad0 ad H locs ls cx hE hH hl)
theorem zg_dup_x1 {a b : zV} (hd : zD y.2.1 pc .dup_x1 1 pc') (ha : zcat a = 1) (hb : zcat b = 1) (k : zG d y mc ms r σ' n0 pc' lv (a :: b :: a :: st) σ cells slots) : zG d y mc ms r σ' n0 pc lv (a :: b :: st) σ cells slots := by
  obtain ⟨hd, rfl⟩ := hd
  intro p l e s m args below meth c A dC dI cA ad0 ad H locs ls cx hE hH hl
  exact lv_dup_x1 cx.1 cx.2.1 hd ((zcv_cat ad a).trans ha) ((zcv_cat ad b).trans hb) (k p l e s m args below meth c A dC dI cA ad0 ad H locs ls cx hE hH hl)
theorem zg_dup2 {a b : zV} (hd : zD y.2.1 pc .dup2 1 pc') (ha : zcat a = 1) (hb : zcat b = 1) (k : zG d y mc ms r σ' n0 pc' lv (a :: b :: a :: b :: st) σ cells slots) : zG d y mc ms r σ' n0 pc lv (a :: b :: st) σ cells slots := by
  obtain ⟨hd, rfl⟩ := hd
  intro p l e s m args below meth c A dC dI cA ad0 ad H locs ls cx hE hH hl
  exact lv_dup2_11 cx.1 cx.2.1 hd ((zcv_cat ad a).trans ha) ((zcv_cat ad b).trans hb) (k p l e s m args below meth c A dC dI cA ad0 ad H locs ls cx hE hH hl)
theorem zg_if_eq {x : Int32} {off : Int} {tgt : Nat} (hd : zD y.2.1 pc (.ifCond .eq off) 3 pc') (ht : (pc : Int) + off = (tgt : Int)) (kt : x = 0 → zG d y mc ms r σ' n0 tgt lv st σ cells slots) (kf : ¬ x = 0 → zG d y mc ms r σ' n0 pc' lv st σ cells slots) : zG d y mc ms r σ' n0 pc lv (.inl x :: st) σ cells slots := by
  obtain ⟨hd, rfl⟩ := hd
  intro p l e s m args below meth c A dC dI cA ad0 ad H locs ls cx hE hH hl
  exact lv_if_eq cx.1 cx.2.1 hd ht (fun h => kt h p l e s m args below meth c A dC dI cA ad0 ad H locs ls cx hE hH hl) (fun h => kf h p l e s m args below meth c A dC dI cA ad0 ad H locs ls cx hE hH hl)
theorem zg_icmp_eq {x y2 : Int32} {off : Int} {tgt : Nat} (hd : zD y.2.1 pc (.if_icmp .eq off) 3 pc') (ht : (pc : Int) + off = (tgt : Int)) (kt : x = y2 → zG d y mc ms r σ' n0 tgt lv st σ cells slots) (kf : ¬ x = y2 → zG d y mc ms r σ' n0 pc' lv st σ cells slots) : zG d y mc ms r σ' n0 pc lv (.inl y2 :: .inl x :: st) σ cells slots := by
  obtain ⟨hd, rfl⟩ := hd
  intro p l e s m args below meth c A dC dI cA ad0 ad H locs ls cx hE hH hl
  exact lv_icmp_eq cx.1 cx.2.1 hd ht (fun h => kt h p l e s m args below meth c A dC dI cA ad0 ad H locs ls cx hE hH hl) (fun h => kf h p l e s m args below meth c A dC dI cA ad0 ad H locs ls cx hE hH hl)
theorem zg_if_ne {x : Int32} {off : Int} {tgt : Nat} (hd : zD y.2.1 pc (.ifCond .ne off) 3 pc') (ht : (pc : Int) + off = (tgt : Int)) (kt : ¬ x = 0 → zG d y mc ms r σ' n0 tgt lv st σ cells slots) (kf : x = 0 → zG d y mc ms r σ' n0 pc' lv st σ cells slots) : zG d y mc ms r σ' n0 pc lv (.inl x :: st) σ cells slots := by
  obtain ⟨hd, rfl⟩ := hd
  intro p l e s m args below meth c A dC dI cA ad0 ad H locs ls cx hE hH hl
  exact lv_if_ne cx.1 cx.2.1 hd ht (fun h => kt h p l e s m args below meth c A dC dI cA ad0 ad H locs ls cx hE hH hl) (fun h => kf h p l e s m args below meth c A dC dI cA ad0 ad H locs ls cx hE hH hl)
theorem zg_icmp_ne {x y2 : Int32} {off : Int} {tgt : Nat} (hd : zD y.2.1 pc (.if_icmp .ne off) 3 pc') (ht : (pc : Int) + off = (tgt : Int)) (kt : ¬ x = y2 → zG d y mc ms r σ' n0 tgt lv st σ cells slots) (kf : x = y2 → zG d y mc ms r σ' n0 pc' lv st σ cells slots) : zG d y mc ms r σ' n0 pc lv (.inl y2 :: .inl x :: st) σ cells slots := by
  obtain ⟨hd, rfl⟩ := hd
  intro p l e s m args below meth c A dC dI cA ad0 ad H locs ls cx hE hH hl
  exact lv_icmp_ne cx.1 cx.2.1 hd ht (fun h => kt h p l e s m args below meth c A dC dI cA ad0 ad H locs ls cx hE hH hl) (fun h => kf h p l e s m args below meth c A dC dI cA ad0 ad H locs ls cx hE hH hl)
theorem zg_if_lt {x : Int32} {off : Int} {tgt : Nat} (hd : zD y.2.1 pc (.ifCond .lt off) 3 pc') (ht : (pc : Int) + off = (tgt : Int)) (kt : x < 0 → zG d y mc ms r σ' n0 tgt lv st σ cells slots) (kf : ¬ x < 0 → zG d y mc ms r σ' n0 pc' lv st σ cells slots) : zG d y mc ms r σ' n0 pc lv (.inl x :: st) σ cells slots := by
  obtain ⟨hd, rfl⟩ := hd
  intro p l e s m args below meth c A dC dI cA ad0 ad H locs ls cx hE hH hl
  exact lv_if_lt cx.1 cx.2.1 hd ht (fun h => kt h p l e s m args below meth c A dC dI cA ad0 ad H locs ls cx hE hH hl) (fun h => kf h p l e s m args below meth c A dC dI cA ad0 ad H locs ls cx hE hH hl)
theorem zg_icmp_lt {x y2 : Int32} {off : Int} {tgt : Nat} (hd : zD y.2.1 pc (.if_icmp .lt off) 3 pc') (ht : (pc : Int) + off = (tgt : Int)) (kt : x < y2 → zG d y mc ms r σ' n0 tgt lv st σ cells slots) (kf : ¬ x < y2 → zG d y mc ms r σ' n0 pc' lv st σ cells slots) : zG d y mc ms r σ' n0 pc lv (.inl y2 :: .inl x :: st) σ cells slots := by
  obtain ⟨hd, rfl⟩ := hd
  intro p l e s m args below meth c A dC dI cA ad0 ad H locs ls cx hE hH hl
  exact lv_icmp_lt cx.1 cx.2.1 hd ht (fun h => kt h p l e s m args below meth c A dC dI cA ad0 ad H locs ls cx hE hH hl) (fun h => kf h p l e s m args below meth c A dC dI cA ad0 ad H locs ls cx hE hH hl)
theorem zg_if_ge {x : Int32} {off : Int} {tgt : Nat} (hd : zD y.2.1 pc (.ifCond .ge off) 3 pc') (ht : (pc : Int) + off = (tgt : Int)) (kt : 0 ≤ x → zG d y mc ms r σ' n0 tgt lv st σ cells slots) (kf : ¬ 0 ≤ x → zG d y mc ms r σ' n0 pc' lv st σ cells slots) : zG d y mc ms r σ' n0 pc lv (.inl x :: st) σ cells slots := by
  obtain ⟨hd, rfl⟩ := hd
  intro p l e s m args below meth c A dC dI cA ad0 ad H locs ls cx hE hH hl
  exact lv_if_ge cx.1 cx.2.1 hd ht (fun h => kt h p l e s m args below meth c A dC dI cA ad0 ad H locs ls cx hE hH hl) (fun h => kf h p l e s m args below meth c A dC dI cA ad0 ad H locs ls cx hE hH hl)
theorem zg_icmp_ge {x y2 : Int32} {off : Int} {tgt : Nat} (hd : zD y.2.1 pc (.if_icmp .ge off) 3 pc') (ht : (pc : Int) + off = (tgt : Int)) (kt : y2 ≤ x → zG d y mc ms r σ' n0 tgt lv st σ cells slots) (kf : ¬ y2 ≤ x → zG d y mc ms r σ' n0 pc' lv st σ cells slots) : zG d y mc ms r σ' n0 pc lv (.inl y2 :: .inl x :: st) σ cells slots := by
  obtain ⟨hd, rfl⟩ := hd
  intro p l e s m args below meth c A dC dI cA ad0 ad H locs ls cx hE hH hl
  exact lv_icmp_ge cx.1 cx.2.1 hd ht (fun h => kt h p l e s m args below meth c A dC dI cA ad0 ad H locs ls cx hE hH hl) (fun h => kf h p l e s m args below meth c A dC dI cA ad0 ad H locs ls cx hE hH hl)
theorem zg_if_gt {x : Int32} {off : Int} {tgt : Nat} (hd : zD y.2.1 pc (.ifCond .gt off) 3 pc') (ht : (pc : Int) + off = (tgt : Int)) (kt : 0 < x → zG d y mc ms r σ' n0 tgt lv st σ cells slots) (kf : ¬ 0 < x → zG d y mc ms r σ' n0 pc' lv st σ cells slots) : zG d y mc ms r σ' n0 pc lv (.inl x :: st) σ cells slots := by
  obtain ⟨hd, rfl⟩ := hd
  intro p l e s m args below meth c A dC dI cA ad0 ad H locs ls cx hE hH hl
  exact lv_if_gt cx.1 cx.2.1 hd ht (fun h => kt h p l e s m args below meth c A dC dI cA ad0 ad H locs ls cx hE hH hl) (fun h => kf h p l e s m args below meth c A dC dI cA ad0 ad H locs ls cx hE hH hl)
theorem zg_icmp_gt {x y2 : Int32} {off : Int} {tgt : Nat} (hd : zD y.2.1 pc (.if_icmp .gt off) 3 pc') (ht : (pc : Int) + off = (tgt : Int)) (kt : y2 < x → zG d y mc ms r σ' n0 tgt lv st σ cells slots) (kf : ¬ y2 < x → zG d y mc ms r σ' n0 pc' lv st σ cells slots) : zG d y mc ms r σ' n0 pc lv (.inl y2 :: .inl x :: st) σ cells slots := by
  obtain ⟨hd, rfl⟩ := hd
  intro p l e s m args below meth c A dC dI cA ad0 ad H locs ls cx hE hH hl
  exact lv_icmp_gt cx.1 cx.2.1 hd ht (fun h => kt h p l e s m args below meth c A dC dI cA ad0 ad H locs ls cx hE hH hl) (fun h => kf h p l e s m args below meth c A dC dI cA ad0 ad H locs ls cx hE hH hl)
theorem zg_if_le {x : Int32} {off : Int} {tgt : Nat} (hd : zD y.2.1 pc (.ifCond .le off) 3 pc') (ht : (pc : Int) + off = (tgt : Int)) (kt : x ≤ 0 → zG d y mc ms r σ' n0 tgt lv st σ cells slots) (kf : ¬ x ≤ 0 → zG d y mc ms r σ' n0 pc' lv st σ cells slots) : zG d y mc ms r σ' n0 pc lv (.inl x :: st) σ cells slots := by
  obtain ⟨hd, rfl⟩ := hd
  intro p l e s m args below meth c A dC dI cA ad0 ad H locs ls cx hE hH hl
  exact lv_if_le cx.1 cx.2.1 hd ht (fun h => kt h p l e s m args below meth c A dC dI cA ad0 ad H locs ls cx hE hH hl) (fun h => kf h p l e s m args below meth c A dC dI cA ad0 ad H locs ls cx hE hH hl)
theorem zg_icmp_le {x y2 : Int32} {off : Int} {tgt : Nat} (hd : zD y.2.1 pc (.if_icmp .le off) 3 pc') (ht : (pc : Int) + off = (tgt : Int)) (kt : x ≤ y2 → zG d y mc ms r σ' n0 tgt lv st σ cells slots) (kf : ¬ x ≤ y2 → zG d y mc ms r σ' n0 pc' lv st σ cells slots) : zG d y mc ms r σ' n0 pc lv (.inl y2 :: .inl x :: st) σ cells slots := by
  obtain ⟨hd, rfl⟩ := hd
  intro p l e s m args below meth c A dC dI cA ad0 ad H locs ls cx hE hH hl
  exact lv_icmp_le cx.1 cx.2.1 hd ht (fun h => kt h p l e s m args below meth c A dC dI cA ad0 ad H locs ls cx hE hH hl) (fun h => kf h p l e s m args below meth c A dC dI cA ad0 ad H locs ls cx hE hH hl)
theorem zg_goto {off : Int} {tgt : Nat} (hd : zD y.2.1 pc (.goto off) 3 pc') (ht : (pc : Int) + off = (tgt : Int)) (k : zG d y mc ms r σ' n0 tgt lv st σ cells slots) : zG d y mc ms r σ' n0 pc lv st σ cells slots := by
  obtain ⟨hd, rfl⟩ := hd
  intro p l e s m args below meth c A dC dI cA ad0 ad H locs ls cx hE hH hl
  exact lv_goto cx.1 cx.2.1 hd ht (k p l e s m args below meth c A dC dI cA ad0 ad H locs ls cx hE hH hl)
end ZR
