/-! CALLS, and a method's contract out of its walk -/
def zCallee (y : zMt) (n : Nat) : Prop := Cond.code y.1 y.2.1 y.2.2.1 y.2.2.2 ∈ zAll ∧ Cond.initialized y.1.cls ∈ zAll ∧ (y.1.cls ≠ "java/lang/invoke/MethodHandle" ∧ y.1.cls ≠ "java/lang/invoke/VarHandle" ∧ (parseMethodDescriptor y.1.desc).map (fun d => d.parameters.length) = some n)
theorem zGood {y : zMt} {ws : List Cond} (h : ∀ w ∈ ws, w ∈ zAll) : GoodIn (zWs y) ws := fun w hw => ⟨List.mem_cons_of_mem _ (h w hw), zAll_good (h w hw)⟩
theorem zWs_all {y : zMt} (h : Cond.code y.1 y.2.1 y.2.2.1 y.2.2.2 ∈ zAll) : ∀ w ∈ zWs y, w ∈ zAll := fun w hw => by
  rcases List.mem_cons.mp hw with rfl | hw
  · exact h
  · exact hw
theorem zblind {dC : Nat → ClassId} {dI : Nat → Nat → Nat} {cA : Nat → ClassId} {ad : Nat → Nat} {σ : zS} {sz : Nat} {av : List Value} : FrameBlind (va_Pc av (zPre dC dI cA ad σ sz)) := fun a U g mk q => by
  obtain ⟨q0, q1, q2, q3, q4, q5, q6, q7⟩ := q
  have hal : U.vm.Alike (U.calling g mk a).vm := Vm.Alike.refl U.vm
  exact ⟨q0, q1, q2, q3, q4.moved hal, q5, q6.warm (State.WarmedH.refl U), q7.same rfl⟩
theorem zcat_sum (ad : Nat → Nat) (st : List zV) : ((st.map (zcv ad)).map fun v => v.category).sum = (st.map zcat).sum := by
  rw [List.map_map]
  congr 1
  apply List.map_congr_left
  intro v _
  exact zcv_cat ad v
section ZC
variable {d : Nat} {y : zMt} {mc ms : Nat} {r : Option zV} {σ' : zS} {n0 pc pc' : Nat} {lv lv' : List (Nat × zV)} {st : List zV} {σ : zS} {cells slots : Nat}
/-- behind a call -/
theorem zg_run {r2 : Option zV} {σ2 : zS} {mc2 ms2 : Nat} {st0 : List Value} {p : Program} {l : Launch} {e : Env} {s : State} {m : MethodId} {args : Array Value} {below : List Frame} {meth : Method} {c : Code} {A : Nat → Prop} {dC : Nat → ClassId} {dI : Nat → Nat → Nat} {cA : Nat → ClassId} {ad0 ad : Nat → Nat} {H : Heap} {locs : List Loc} {ls : Array Slot} {a : Array Value}
    (cx : zCx p s m args meth c y A ad0) (hE : zE n0 σ.1.length ad0 ad) (hH : zH dC dI cA ad σ A s H locs) (hl : lv_has ls y.2.2.1 (zLv ad lv)) (hAA : ∀ q, va_A (zW ad cA σ) H.size q → A q)
    (hr : va_Run p l e (zRm d mc ms) s m args below meth c H locs cells slots mc2 ms2 (F0 m pc ls st0) (st.map (zcv ad)) (zQ dC dI cA ad σ.1.length r2 σ2 (va_A (zW ad cA σ) H.size) a) (va_A (zW ad cA σ) H.size))
    (hst : ∀ ad', zE σ.1.length σ2.1.length ad ad' → st.map (zcv ad') = st.map (zcv ad) ∧ zLv ad' lv = zLv ad lv)
    (k : zG d y mc ms r σ' n0 (pc + 3) lv (r2.toList ++ st) σ2 (cells + mc2) (slots + ms2)) :
    W p l e (zRm d mc ms) s m args below meth c H locs cells slots (MQ below (zQ dC dI cA ad0 n0 r σ' A) args s mc ms A) (F0 m pc ls st0) := by
  intro T hT X
  obtain ⟨v, st₀, t, T', L, h0, X', hL, e1, e2, ⟨⟨ad', hE', hv, hP', hK', hD'⟩, hz, hk⟩, stp⟩ := hr T hT X
  obtain ⟨hK, hP, hD, hS⟩ := hH
  cases hv
  rw [h0] at hz hk
  obtain ⟨z1, z2⟩ := hst ad' hE'
  have hG := k p l e s m args below meth c A dC dI cA ad0 ad' T'.heap (locs ++ L) ls cx (hE.trans hE')
    ⟨hK, by rw [e1]; exact hP', hD'.weaken (fun _ q _ h => hAA q.1 h), ⟨Nat.le_trans hS.1 (by rw [e1]; exact hz), fun q h1 h2 => by
      rw [e1, hk q (Nat.lt_of_lt_of_le h1 hS.1) (fun z => h2 (hAA q z))]
      exact hS.2.1 q h1 h2, fun q hq => by
      rcases List.mem_append.mp hq with h | h
      · exact hS.2.2 q h
      · exact hAA _ (hL q h)⟩⟩ (by rw [z2]; exact hl)
  obtain ⟨t2, a1, b1⟩ := hG T' rfl X'
  refine ⟨t2, stp t2 ?_, b1⟩
  have e3 : (r2.toList ++ st).map (zcv ad') = (r2.map (zcv ad')).toList ++ st.map (zcv ad) := by
    rw [List.map_append, z1]
    cases r2 <;> rfl
  rw [e3] at a1
  exact a1
theorem zAA {dC : Nat → ClassId} {dI : Nat → Nat → Nat} {cA : Nat → ClassId} {ad : Nat → Nat} {A : Nat → Prop} {s : State} {H : Heap} {locs : List Loc} (hA : ∀ q, s.heap.size ≤ q → A q) (hH : zH dC dI cA ad σ A s H locs) : ∀ q, va_A (zW ad cA σ) H.size q → A q := by
  intro q h
  rcases h with ⟨k, e, h⟩ | h
  · exact hH.2.2.1.2 k _ h
  · exact hA q (Nat.le_trans hH.2.2.2.1 h)
theorem zpre {dC : Nat → ClassId} {dI : Nat → Nat → Nat} {cA : Nat → ClassId} {ad0 ad : Nat → Nat} {A : Nat → Prop} {s : State} {H : Heap} {locs : List Loc} {p : Program} {m : MethodId} {args : Array Value} {meth : Method} {c : Code} (cx : zCx p s m args meth c y A ad0) (hE : zE n0 σ.1.length ad0 ad) (hH : zH dC dI cA ad σ A s H locs) (U : State) (hU : U.heap = H) (hW : s.WarmedH U.vm) : zPre dC dI cA ad σ H.size U := by
  have hAA := zAA cx.2.2.2.2.2.2.2.1 hH
  obtain ⟨hK, hP, hD, hS⟩ := hH
  have hX := zX.ext hE cx.2.2.2.2.2.2.2.2.1
  refine ⟨by rw [hU], hE.2.1, by rw [hU]; exact hP, hK.moved hW.alike, hD.weaken (fun _ _ _ _ => trivial), ?_, cx.2.2.2.2.2.2.2.2.2.1.warm hW⟩
  have h1 : zX ad A s H := hX.kept (fun q h1 h2 => hS.2.1 q h1 h2)
  rw [hU]
  exact (h1.narrow hAA).warm hW
/-- a static method of any class -/
theorem zg_invS {yc : zMt} {av : List zV} {r2 : Option zV} {σ2 : zS} {mc2 ms2 d2 ix n : Nat} (hd : zD y.2.1 pc (.invokestatic ix) 3 pc') (hc : zCallee yc n) (hw : Cond.methodLink y.1.cls ix yc.1 ∈ zAll) (hs : Cond.static yc.1 ∈ zAll) (hM : zM d2 yc av σ r2 σ2 mc2 ms2) (hn : av.length = n) (hR : d2 + 1 ≤ d ∧ yc.2.2.1 ≤ 40) (hst : (st.map zcat).sum ≤ 8) (hf : cells + mc2 ≤ mc ∧ slots + ms2 ≤ ms)
    (hfix : ∀ ad ad', zE σ.1.length σ2.1.length ad ad' → st.map (zcv ad') = st.map (zcv ad) ∧ zLv ad' lv = zLv ad lv)
    (k : zG d y mc ms r σ' n0 pc' lv (r2.toList ++ st) σ2 (cells + mc2) (slots + ms2)) : zG d y mc ms r σ' n0 pc lv (av.reverse ++ st) σ cells slots := by
  obtain ⟨hd, rfl⟩ := hd
  intro p l e s m args below meth c A dC dI cA ad0 ad H locs ls cx hE hH hl
  have hAA := zAA cx.2.2.2.2.2.2.2.1 hH
  refine zg_run cx hE hH hl hAA (r2 := r2) (σ2 := σ2) (mc2 := mc2) (ms2 := ms2) (st := st) (va_runS (As := av.map (zcv ad)) (rest := st.map (zcv ad)) ⟨cx.1, cx.2.1, cx.2.2.2.1, cx.2.2.2.2.1, cx.2.2.2.2.2.1⟩ (hM l dC dI cA ad H.size) (va_cwS n cx.2.2.2.2.2.1 (zGood (fun w hw2 => ?_)) rfl rfl rfl hc.2.2 ⟨hR.1, ?_⟩) ⟨zblind, fun U hU hW => ⟨rfl, zpre cx hE hH U hU hW⟩⟩ rfl (by simp [hn]) hl.1 ?_ (lv_room (by rw [zcat_sum]; exact hst)) hd hf) (fun ad' h => hfix ad ad' h) k
  · rcases List.mem_append.mp hw2 with h | h
    · simp only [List.mem_cons, List.not_mem_nil, or_false] at h
      rcases h with rfl | rfl | rfl
      · exact hw
      · exact hs
      · exact hc.2.1
    · exact zWs_all hc.1 w h
  · show 8 + (yc.2.2.1 + 11) + 64 * d2 ≤ 64 * d
    omega
  · simp [List.map_append, List.map_reverse]
/-- a private static method of a nest mate -/
theorem zg_invSN {yc : zMt} {av : List zV} {r2 : Option zV} {σ2 : zS} {mc2 ms2 d2 ix n : Nat} {host : String} (hd : zD y.2.1 pc (.invokestatic ix) 3 pc') (hc : zCallee yc n) (hw : (y.1.cls, ix, yc.1, host) ∈ zXn) (hs : Cond.static yc.1 ∈ zAll) (hM : zM d2 yc av σ r2 σ2 mc2 ms2) (hn : av.length = n) (hR : d2 + 1 ≤ d ∧ yc.2.2.1 ≤ 40) (hst : (st.map zcat).sum ≤ 8) (hf : cells + mc2 ≤ mc ∧ slots + ms2 ≤ ms)
    (hfix : ∀ ad ad', zE σ.1.length σ2.1.length ad ad' → st.map (zcv ad') = st.map (zcv ad) ∧ zLv ad' lv = zLv ad lv)
    (k : zG d y mc ms r σ' n0 pc' lv (r2.toList ++ st) σ2 (cells + mc2) (slots + ms2)) : zG d y mc ms r σ' n0 pc lv (av.reverse ++ st) σ cells slots := by
  obtain ⟨hd, rfl⟩ := hd
  intro p l e s m args below meth c A dC dI cA ad0 ad H locs ls cx hE hH hl
  have hAA := zAA cx.2.2.2.2.2.2.2.1 hH
  have hY := cx.2.2.2.2.2.2.2.2.2.1
  refine zg_run cx hE hH hl hAA (r2 := r2) (σ2 := σ2) (mc2 := mc2) (ms2 := ms2) (st := st) (va_runSN (As := av.map (zcv ad)) (rest := st.map (zcv ad)) ⟨cx.1, cx.2.1, cx.2.2.2.1, cx.2.2.2.2.1, cx.2.2.2.2.2.1⟩ (hM l dC dI cA ad H.size) ⟨va_cnB n cx.2.2.2.2.2.1 (zGood (zWs_all hc.1)) rfl rfl rfl (hY.1 _ hw) (cx.2.2.2.2.2.1 _ (List.mem_cons_of_mem _ hc.2.1)) hc.2.2 ⟨hR.1, ?_⟩, cx.2.2.2.2.2.1 _ (List.mem_cons_of_mem _ hs), trivial⟩ ⟨zblind, fun U hU hW => ⟨rfl, zpre cx hE hH U hU hW⟩⟩ rfl (by simp [hn]) hl.1 ?_ (lv_room (by rw [zcat_sum]; exact hst)) hd hf) (fun ad' h => hfix ad ad' h) k
  · show 8 + (yc.2.2.1 + 11) + 64 * d2 ≤ 64 * d
    omega
  · simp [List.map_append, List.map_reverse]
/-- a method of an object -/
theorem zg_invV {yc : zMt} {av : List zV} {b ci : Nat} {q : vw_C} {r2 : Option zV} {σ2 : zS} {mc2 ms2 d2 ix n : Nat} (hd : zD y.2.1 pc (.invokevirtual ix) 3 pc') (hc : zCallee yc n) (hw : Cond.methodLink y.1.cls ix yc.1 ∈ zAll) (hi : Cond.instanceMethod yc.1 ∈ zAll) (hse : Cond.selects yc.1.cls yc.1 yc.1 ∈ zAll) (hb : σ.1[b]? = some (.inl ci)) (hq : zCl[ci]? = some q) (hqc : yc.1.cls = q.1) (hM : zM d2 yc (.inr (.inr (some b)) :: av) σ r2 σ2 mc2 ms2) (hn : av.length = n) (hR : d2 + 1 ≤ d ∧ yc.2.2.1 ≤ 40) (hst : (st.map zcat).sum ≤ 8) (hf : cells + mc2 ≤ mc ∧ slots + ms2 ≤ ms)
    (hfix : ∀ ad ad', zE σ.1.length σ2.1.length ad ad' → st.map (zcv ad') = st.map (zcv ad) ∧ zLv ad' lv = zLv ad lv)
    (k : zG d y mc ms r σ' n0 pc' lv (r2.toList ++ st) σ2 (cells + mc2) (slots + ms2)) : zG d y mc ms r σ' n0 pc lv (av.reverse ++ .inr (.inr (some b)) :: st) σ cells slots := by
  obtain ⟨hd, rfl⟩ := hd
  intro p l e s m args below meth c A dC dI cA ad0 ad H locs ls cx hE hH hl
  have hAA := zAA cx.2.2.2.2.2.2.2.1 hH
  refine zg_run cx hE hH hl hAA (r2 := r2) (σ2 := σ2) (mc2 := mc2) (ms2 := ms2) (st := st) (va_runV (C := yc.1.cls) (b := ad b) (As := av.map (zcv ad)) (rest := st.map (zcv ad)) ⟨cx.1, cx.2.1, cx.2.2.2.1, cx.2.2.2.2.1, cx.2.2.2.2.2.1⟩ (hM l dC dI cA ad H.size) (cwV n cx.2.2.2.2.2.1 (zGood (fun w hw2 => ?_)) rfl rfl rfl ⟨rfl, hc.2.2⟩ ⟨hR.1, ?_⟩) ⟨zblind, ?_, fun U hU hW => ⟨rfl, zpre cx hE hH U hU hW⟩⟩ rfl (by simp [hn]) hl.1 ?_ (lv_room (by rw [zcat_sum]; exact hst)) hd hf) (fun ad' h => hfix ad ad' h) k
  · rcases List.mem_append.mp hw2 with h | h
    · simp only [List.mem_cons, List.not_mem_nil, or_false] at h
      rcases h with rfl | rfl | rfl | rfl
      · exact hw
      · exact hi
      · exact hse
      · exact hc.2.1
    · exact zWs_all hc.1 w h
  · show 8 + (yc.2.2.1 + 11) + 64 * d2 ≤ 64 * d
    omega
  · rw [hqc]
    exact va_recv hH.1 hH.2.1 hq (zW_at hb)
  · simp [List.map_append, List.map_reverse, zcv, va_rf]
/-- a method of an object that stands outside -/
theorem zg_invX {yc : zMt} {av : List zV} {b : Nat} {r2 : Option zV} {σ2 : zS} {mc2 ms2 d2 ix n : Nat} (hd : zD y.2.1 pc (.invokevirtual ix) 3 pc') (hc : zCallee yc n) (hw : Cond.methodLink y.1.cls ix yc.1 ∈ zAll) (hi : Cond.instanceMethod yc.1 ∈ zAll) (hse : Cond.selects yc.1.cls yc.1 yc.1 ∈ zAll) (hb : (yc.1.cls, b) ∈ zXo) (hM : zM d2 yc (.inr (.inr (some b)) :: av) σ r2 σ2 mc2 ms2) (hn : av.length = n) (hR : d2 + 1 ≤ d ∧ yc.2.2.1 ≤ 40) (hst : (st.map zcat).sum ≤ 8) (hf : cells + mc2 ≤ mc ∧ slots + ms2 ≤ ms)
    (hfix : ∀ ad ad', zE σ.1.length σ2.1.length ad ad' → st.map (zcv ad') = st.map (zcv ad) ∧ zLv ad' lv = zLv ad lv)
    (k : zG d y mc ms r σ' n0 pc' lv (r2.toList ++ st) σ2 (cells + mc2) (slots + ms2)) : zG d y mc ms r σ' n0 pc lv (av.reverse ++ .inr (.inr (some b)) :: st) σ cells slots := by
  obtain ⟨hd, rfl⟩ := hd
  intro p l e s m args below meth c A dC dI cA ad0 ad H locs ls cx hE hH hl
  have hAA := zAA cx.2.2.2.2.2.2.2.1 hH
  have hX := zX.ext hE cx.2.2.2.2.2.2.2.2.1
  refine zg_run cx hE hH hl hAA (r2 := r2) (σ2 := σ2) (mc2 := mc2) (ms2 := ms2) (st := st) (va_runV (C := yc.1.cls) (b := ad b) (As := av.map (zcv ad)) (rest := st.map (zcv ad)) ⟨cx.1, cx.2.1, cx.2.2.2.1, cx.2.2.2.2.1, cx.2.2.2.2.2.1⟩ (hM l dC dI cA ad H.size) (cwV n cx.2.2.2.2.2.1 (zGood (fun w hw2 => ?_)) rfl rfl rfl ⟨rfl, hc.2.2⟩ ⟨hR.1, ?_⟩) ⟨zblind, ?_, fun U hU hW => ⟨rfl, zpre cx hE hH U hU hW⟩⟩ rfl (by simp [hn]) hl.1 ?_ (lv_room (by rw [zcat_sum]; exact hst)) hd hf) (fun ad' h => hfix ad ad' h) k
  · rcases List.mem_append.mp hw2 with h | h
    · simp only [List.mem_cons, List.not_mem_nil, or_false] at h
      rcases h with rfl | rfl | rfl | rfl
      · exact hw
      · exact hi
      · exact hse
      · exact hc.2.1
    · exact zWs_all hc.1 w h
  · show 8 + (yc.2.2.1 + 11) + 64 * d2 ≤ 64 * d
    omega
  · obtain ⟨cell, h1, h2, h3, -⟩ := (hX.2.2.1 _ hb).kept hH.2.2.2.2.1
    exact ⟨cell, h1, h2, h3⟩
  · simp [List.map_append, List.map_reverse, zcv, va_rf]
end ZC
/-- nothing is made: nothing that stands by changes its meaning -/
theorem zfix {sh : List zK} {R : zRf} {I I2 : zI} {st : List zV} {lv : List (Nat × zV)} : ∀ ad ad', zE (sh, R, I).1.length (sh, R, I2).1.length ad ad' → st.map (zcv ad') = st.map (zcv ad) ∧ zLv ad' lv = zLv ad lv := fun ad ad' h => by
  have := zE.eq h
  subst this
  exact ⟨rfl, rfl⟩
def zArgs : Nat → List zV → List (Nat × zV)
  | _, [] => []
  | i, v :: vs => (i, v) :: zArgs (if zcat v = 2 then i + 2 else i + 1) vs
theorem zArgs_eq (ad : Nat → Nat) : ∀ (av : List zV) (i : Nat), lv_args i (av.map (zcv ad)) = zLv ad (zArgs i av)
  | [], i => rfl
  | v :: vs, i => by
    show (i, zcv ad v) :: lv_args (if (zcv ad v).category = 2 then i + 2 else i + 1) (vs.map (zcv ad)) = (i, zcv ad v) :: zLv ad (zArgs (if zcat v = 2 then i + 2 else i + 1) vs)
    rw [zcv_cat, zArgs_eq ad vs]
theorem zArgs_len (ad : Nat → Nat) : ∀ (av : List zV), (lg_sl (av.map (zcv ad))).length = (av.map zcat).sum
  | [] => rfl
  | v :: vs => by
    have ih := zArgs_len ad vs
    have hc := zcv_cat ad v
    have e : lg_sl ((v :: vs).map (zcv ad)) = lg_sl [zcv ad v] ++ lg_sl (vs.map (zcv ad)) := by simp [lg_sl]
    rw [e, List.length_append, ih]
    have e2 : (lg_sl [zcv ad v]).length = zcat v := by
      rw [← hc]
      rcases lv_cat (zcv ad v) with h | h <;> simp [lg_sl, h]
    rw [e2]
    simp
theorem zM_of {d : Nat} {y : zMt} {mc ms : Nat} {r : Option zV} {σ σ' : zS} {av : List zV} {lv : List (Nat × zV)} (hp : plainName y.1.cls = true) (hlen : (av.map zcat).sum ≤ y.2.2.1) (hlv : zArgs 0 av = lv) (k : zG d y mc ms r σ' σ.1.length 0 lv [] σ 0 0) : zM d y av σ r σ' mc ms := by
  intro l dC dI cA ad sz
  refine Met.ofW (cc := y.2.1) (maxL := y.2.2.1) (ret := y.2.2.2) hp rfl ?_
  intro p e s m args below meth c s₁ B hml hv
  obtain ⟨rfl, hsz, hle, hP, hK, hD, hX, hY⟩ := hv
  subst hsz
  have hl := lv_entry (av.map (zcv ad)) (n := y.2.2.1) (by rw [zArgs_len]; exact hlen)
  rw [lg_entry_eq]
  generalize (lg_sl (av.map (zcv ad)) ++ List.replicate (y.2.2.1 - (lg_sl (av.map (zcv ad))).length) Slot.unset).toArray = ls at hl ⊢
  rw [zArgs_eq, hlv] at hl
  exact k p l e s m _ below meth c (va_A (zW ad cA σ) s.heap.size) dC dI cA ad ad s.heap [] ls ⟨B.exec, B.bytes, B.returns, hml, findClass_of_methodNamed B.named, atoms_spec (ws := zWs y) B.pre, B.notSynchronized, fun q h => Or.inr h, hX, hY, (name_of_methodNamed B.named B.method).1⟩ (zE.rf hle) ⟨hK, hP, hD.self, va_S.rf⟩ hl
/-- out of what a function answers -/
theorem z_if {c : Prop} [Decidable c] {α : Type} {a b : Option α} {x : α} (h : (if c then a else b) = some x) : (c ∧ a = some x) ∨ (¬ c ∧ b = some x) := by
  by_cases hc : c
  · rw [if_pos hc] at h
    exact Or.inl ⟨hc, h⟩
  · rw [if_neg hc] at h
    exact Or.inr ⟨hc, h⟩
theorem z_t {c : Prop} [Decidable c] {α : Type} {a b : α} {x : α} (h : (if c then a else b) = x) (hc : c) : a = x := by rw [if_pos hc] at h; exact h
theorem z_f {c : Prop} [Decidable c] {α : Type} {a b : α} {x : α} (h : (if c then a else b) = x) (hc : ¬ c) : b = x := by rw [if_neg hc] at h; exact h
theorem z_gd {c : Bool} {α : Type} {a : Option α} {x : α} (h : (if c = true then a else none) = some x) : c = true ∧ a = some x := by
  by_cases hc : c = true
  · rw [if_pos hc] at h
    exact ⟨hc, h⟩
  · rw [if_neg hc] at h
    cases h
theorem z_bd {α β : Type} {o : Option α} {f : α → Option β} {x : β} (h : o.bind f = some x) : ∃ v, o = some v ∧ f v = some x := Option.bind_eq_some_iff.mp h
