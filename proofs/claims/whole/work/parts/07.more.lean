/-! more rules: switches, narrow answers, calls by the kind of what is answered -/
abbrev z_guard {α : Type} (b : Bool) (o : Option α) : Option α := if b = true then o else none
def zna (ty : FieldType) (x : Int32) : Bool := match narrow ty (.int x) with
  | .int z => decide (z = x)
  | _ => false
theorem zna_of {ty : FieldType} {x : Int32} (h : zna ty x = true) : narrow ty (.int x) = .int x := by
  unfold zna at h
  split at h
  · rename_i z hz
    rw [hz]
    rw [of_decide_eq_true h]
  · cases h
def zcopy (I : zI) (i j : Nat) (sp dp n : Int32) : zI := zrow I j (va_cpy (I i) (I j) sp.toNatClampNeg dp.toNatClampNeg n.toNatClampNeg)
def zfill (I : zI) (i n : Nat) (v : Int32) : zI := zrow I i (fun k => if k < n then v else I i k)
def zdp (c : Nat) : Nat → Nat
  | 0 => 0
  | n + 1 => zdp c n + c
theorem z_lookD {ps : List (Int × Int)} {d z : Int} (h : ∀ p ∈ ps, p.1 ≠ z) : Op.lookupswitch.offset ps d z = d := by
  induction ps with
  | nil => first | rfl | simp [Op.lookupswitch.offset]
  | cons p l ih =>
    obtain ⟨a, o⟩ := p
    rw [Op.lookupswitch.offset_cons, if_neg (h (a, o) List.mem_cons_self)]
    exact ih (fun q hq => h q (List.mem_cons_of_mem _ hq))
section ZM
variable {d : Nat} {y : zMt} {mc ms : Nat} {r : Option zV} {σ' : zS} {n0 pc pc' : Nat} {lv lv' : List (Nat × zV)} {st : List zV} {σ : zS} {cells slots : Nat}
theorem zg_tabIn {dflt lo hi : Int} {offs : Array Int} {len : Nat} {x v : Int32} {tgt : Nat} (off : Int) (hd : zD y.2.1 pc (.tableswitch dflt lo hi offs) len pc') (hx : x = v) (h1 : lo ≤ v.toInt ∧ v.toInt ≤ hi) (ho : offs[(v.toInt - lo).toNat]? = some off) (ht : (pc : Int) + off = (tgt : Int)) (k : zG d y mc ms r σ' n0 tgt lv st σ cells slots) : zG d y mc ms r σ' n0 pc lv (.inl x :: st) σ cells slots := by
  obtain ⟨hd, rfl⟩ := hd
  subst hx
  intro p l e s m args below meth c A dC dI cA ad0 ad H locs ls cx hE hH hl
  exact lv_tableIn cx.1 cx.2.1 hd (by omega) (by omega) ho ht (k p l e s m args below meth c A dC dI cA ad0 ad H locs ls cx hE hH hl)
theorem zg_tabOut {dflt lo hi : Int} {offs : Array Int} {len : Nat} {x : Int32} {tgt : Nat} (xs : List Int32) (hd : zD y.2.1 pc (.tableswitch dflt lo hi offs) len pc') (hxs : ((List.range (hi - lo + 1).toNat).all fun j => xs.any fun v => decide (v.toInt = lo + j)) = true) (hn : ∀ v ∈ xs, ¬ x = v) (ht : (pc : Int) + dflt = (tgt : Int)) (k : zG d y mc ms r σ' n0 tgt lv st σ cells slots) : zG d y mc ms r σ' n0 pc lv (.inl x :: st) σ cells slots := by
  obtain ⟨hd, rfl⟩ := hd
  intro p l e s m args below meth c A dC dI cA ad0 ad H locs ls cx hE hH hl
  refine lv_tableOut cx.1 cx.2.1 hd ?_ ht (k p l e s m args below meth c A dC dI cA ad0 ad H locs ls cx hE hH hl)
  by_cases h1 : x.toInt < lo
  · exact Or.inl h1
  · by_cases h2 : hi < x.toInt
    · exact Or.inr h2
    · exfalso
      have h3 := List.all_eq_true.mp hxs (x.toInt - lo).toNat (List.mem_range.mpr (by omega))
      obtain ⟨v, hv, hv2⟩ := List.any_eq_true.mp h3
      have hv3 := of_decide_eq_true hv2
      refine hn v hv (Int32.toInt_inj.mp ?_)
      rw [hv3]
      omega
theorem zg_lookIn {dflt : Int} {ps : Array (Int × Int)} {len : Nat} {x v : Int32} {tgt : Nat} (off : Int) (hd : zD y.2.1 pc (.lookupswitch dflt ps) len pc') (hp : (ps.toList.zip (ps.toList.drop 1)).all (fun (a, next) => a.1 < next.1) = true) (hx : x = v) (ho : Op.lookupswitch.offset ps.toList dflt v.toInt = off) (ht : (pc : Int) + off = (tgt : Int)) (k : zG d y mc ms r σ' n0 tgt lv st σ cells slots) : zG d y mc ms r σ' n0 pc lv (.inl x :: st) σ cells slots := by
  obtain ⟨hd, rfl⟩ := hd
  subst hx
  intro p l e s m args below meth c A dC dI cA ad0 ad H locs ls cx hE hH hl
  exact lv_lookup cx.1 cx.2.1 hd hp ho ht (k p l e s m args below meth c A dC dI cA ad0 ad H locs ls cx hE hH hl)
theorem zg_lookOut {dflt : Int} {ps : Array (Int × Int)} {len : Nat} {x : Int32} {tgt : Nat} (xs : List Int32) (hd : zD y.2.1 pc (.lookupswitch dflt ps) len pc') (hp : (ps.toList.zip (ps.toList.drop 1)).all (fun (a, next) => a.1 < next.1) = true) (hxs : (ps.toList.all fun p => xs.any fun v => decide (v.toInt = p.1)) = true) (hn : ∀ v ∈ xs, ¬ x = v) (ht : (pc : Int) + dflt = (tgt : Int)) (k : zG d y mc ms r σ' n0 tgt lv st σ cells slots) : zG d y mc ms r σ' n0 pc lv (.inl x :: st) σ cells slots := by
  obtain ⟨hd, rfl⟩ := hd
  intro p l e s m args below meth c A dC dI cA ad0 ad H locs ls cx hE hH hl
  refine lv_lookup cx.1 cx.2.1 hd hp (z_lookD fun q hq hq2 => ?_) ht (k p l e s m args below meth c A dC dI cA ad0 ad H locs ls cx hE hH hl)
  obtain ⟨v, hv, hv2⟩ := List.any_eq_true.mp (List.all_eq_true.mp hxs q hq)
  exact hn v hv (Int32.toInt_inj.mp (by rw [of_decide_eq_true hv2, hq2]))
end ZM
section ZK
variable {d : Nat} {y yc : zMt} {r : Option zV} {σ' : zS} {n0 pc pc' : Nat} {lv : List (Nat × zV)} {sh : List zK} {R : zRf} {I I2 : zI} {d2 ix n : Nat}
theorem zg_invS_i {av st : List zV} {x : Int32} (hd : zD y.2.1 pc (.invokestatic ix) 3 pc') (hc : zCallee yc n) (hw : Cond.methodLink y.1.cls ix yc.1 ∈ zAll) (hs : Cond.static yc.1 ∈ zAll) (hM : zM d2 yc av (sh, R, I) (some (.inl x)) (sh, R, I2) 0 0) (hn : av.length = n) (hR : d2 + 1 ≤ d ∧ yc.2.2.1 ≤ 40) (hst : (st.map zcat).sum ≤ 8) (k : zG d y 0 0 r σ' n0 pc' lv (.inl x :: st) (sh, R, I2) 0 0) : zG d y 0 0 r σ' n0 pc lv (av.reverse ++ st) (sh, R, I) 0 0 :=
  zg_invS hd hc hw hs hM hn hR hst ⟨Nat.le_refl _, Nat.le_refl _⟩ zfix k
theorem zg_invSN_i {av st : List zV} {x : Int32} {host : String} (hd : zD y.2.1 pc (.invokestatic ix) 3 pc') (hc : zCallee yc n) (hw : (y.1.cls, ix, yc.1, host) ∈ zXn) (hs : Cond.static yc.1 ∈ zAll) (hM : zM d2 yc av (sh, R, I) (some (.inl x)) (sh, R, I2) 0 0) (hn : av.length = n) (hR : d2 + 1 ≤ d ∧ yc.2.2.1 ≤ 40) (hst : (st.map zcat).sum ≤ 8) (k : zG d y 0 0 r σ' n0 pc' lv (.inl x :: st) (sh, R, I2) 0 0) : zG d y 0 0 r σ' n0 pc lv (av.reverse ++ st) (sh, R, I) 0 0 :=
  zg_invSN hd hc hw hs hM hn hR hst ⟨Nat.le_refl _, Nat.le_refl _⟩ zfix k
theorem zg_invV_i {av st : List zV} {x : Int32} {b ci : Nat} {q : vw_C} (hd : zD y.2.1 pc (.invokevirtual ix) 3 pc') (hc : zCallee yc n) (hw : Cond.methodLink y.1.cls ix yc.1 ∈ zAll) (hi : Cond.instanceMethod yc.1 ∈ zAll) (hse : Cond.selects yc.1.cls yc.1 yc.1 ∈ zAll) (hb : sh[b]? = some (.inl ci)) (hq : zCl[ci]? = some q) (hqc : yc.1.cls = q.1) (hM : zM d2 yc (.inr (.inr (some b)) :: av) (sh, R, I) (some (.inl x)) (sh, R, I2) 0 0) (hn : av.length = n) (hR : d2 + 1 ≤ d ∧ yc.2.2.1 ≤ 40) (hst : (st.map zcat).sum ≤ 8) (k : zG d y 0 0 r σ' n0 pc' lv (.inl x :: st) (sh, R, I2) 0 0) : zG d y 0 0 r σ' n0 pc lv (av.reverse ++ .inr (.inr (some b)) :: st) (sh, R, I) 0 0 :=
  zg_invV hd hc hw hi hse hb hq hqc hM hn hR hst ⟨Nat.le_refl _, Nat.le_refl _⟩ zfix k
theorem zg_invX_i {av st : List zV} {x : Int32} {b : Nat} (hd : zD y.2.1 pc (.invokevirtual ix) 3 pc') (hc : zCallee yc n) (hw : Cond.methodLink y.1.cls ix yc.1 ∈ zAll) (hi : Cond.instanceMethod yc.1 ∈ zAll) (hse : Cond.selects yc.1.cls yc.1 yc.1 ∈ zAll) (hb : (yc.1.cls, b) ∈ zXo) (hM : zM d2 yc (.inr (.inr (some b)) :: av) (sh, R, I) (some (.inl x)) (sh, R, I2) 0 0) (hn : av.length = n) (hR : d2 + 1 ≤ d ∧ yc.2.2.1 ≤ 40) (hst : (st.map zcat).sum ≤ 8) (k : zG d y 0 0 r σ' n0 pc' lv (.inl x :: st) (sh, R, I2) 0 0) : zG d y 0 0 r σ' n0 pc lv (av.reverse ++ .inr (.inr (some b)) :: st) (sh, R, I) 0 0 :=
  zg_invX hd hc hw hi hse hb hM hn hR hst ⟨Nat.le_refl _, Nat.le_refl _⟩ zfix k
theorem zg_invS_v {av st : List zV} (hd : zD y.2.1 pc (.invokestatic ix) 3 pc') (hc : zCallee yc n) (hw : Cond.methodLink y.1.cls ix yc.1 ∈ zAll) (hs : Cond.static yc.1 ∈ zAll) (hM : zM d2 yc av (sh, R, I) none (sh, R, I2) 0 0) (hn : av.length = n) (hR : d2 + 1 ≤ d ∧ yc.2.2.1 ≤ 40) (hst : (st.map zcat).sum ≤ 8) (k : zG d y 0 0 r σ' n0 pc' lv (st) (sh, R, I2) 0 0) : zG d y 0 0 r σ' n0 pc lv (av.reverse ++ st) (sh, R, I) 0 0 :=
  zg_invS hd hc hw hs hM hn hR hst ⟨Nat.le_refl _, Nat.le_refl _⟩ zfix k
theorem zg_invSN_v {av st : List zV} {host : String} (hd : zD y.2.1 pc (.invokestatic ix) 3 pc') (hc : zCallee yc n) (hw : (y.1.cls, ix, yc.1, host) ∈ zXn) (hs : Cond.static yc.1 ∈ zAll) (hM : zM d2 yc av (sh, R, I) none (sh, R, I2) 0 0) (hn : av.length = n) (hR : d2 + 1 ≤ d ∧ yc.2.2.1 ≤ 40) (hst : (st.map zcat).sum ≤ 8) (k : zG d y 0 0 r σ' n0 pc' lv (st) (sh, R, I2) 0 0) : zG d y 0 0 r σ' n0 pc lv (av.reverse ++ st) (sh, R, I) 0 0 :=
  zg_invSN hd hc hw hs hM hn hR hst ⟨Nat.le_refl _, Nat.le_refl _⟩ zfix k
theorem zg_invV_v {av st : List zV} {b ci : Nat} {q : vw_C} (hd : zD y.2.1 pc (.invokevirtual ix) 3 pc') (hc : zCallee yc n) (hw : Cond.methodLink y.1.cls ix yc.1 ∈ zAll) (hi : Cond.instanceMethod yc.1 ∈ zAll) (hse : Cond.selects yc.1.cls yc.1 yc.1 ∈ zAll) (hb : sh[b]? = some (.inl ci)) (hq : zCl[ci]? = some q) (hqc : yc.1.cls = q.1) (hM : zM d2 yc (.inr (.inr (some b)) :: av) (sh, R, I) none (sh, R, I2) 0 0) (hn : av.length = n) (hR : d2 + 1 ≤ d ∧ yc.2.2.1 ≤ 40) (hst : (st.map zcat).sum ≤ 8) (k : zG d y 0 0 r σ' n0 pc' lv (st) (sh, R, I2) 0 0) : zG d y 0 0 r σ' n0 pc lv (av.reverse ++ .inr (.inr (some b)) :: st) (sh, R, I) 0 0 :=
  zg_invV hd hc hw hi hse hb hq hqc hM hn hR hst ⟨Nat.le_refl _, Nat.le_refl _⟩ zfix k
theorem zg_invX_v {av st : List zV} {b : Nat} (hd : zD y.2.1 pc (.invokevirtual ix) 3 pc') (hc : zCallee yc n) (hw : Cond.methodLink y.1.cls ix yc.1 ∈ zAll) (hi : Cond.instanceMethod yc.1 ∈ zAll) (hse : Cond.selects yc.1.cls yc.1 yc.1 ∈ zAll) (hb : (yc.1.cls, b) ∈ zXo) (hM : zM d2 yc (.inr (.inr (some b)) :: av) (sh, R, I) none (sh, R, I2) 0 0) (hn : av.length = n) (hR : d2 + 1 ≤ d ∧ yc.2.2.1 ≤ 40) (hst : (st.map zcat).sum ≤ 8) (k : zG d y 0 0 r σ' n0 pc' lv (st) (sh, R, I2) 0 0) : zG d y 0 0 r σ' n0 pc lv (av.reverse ++ .inr (.inr (some b)) :: st) (sh, R, I) 0 0 :=
  zg_invX hd hc hw hi hse hb hM hn hR hst ⟨Nat.le_refl _, Nat.le_refl _⟩ zfix k
theorem zg_invS_r {av st : List zV} {x : Nat} (hd : zD y.2.1 pc (.invokestatic ix) 3 pc') (hc : zCallee yc n) (hw : Cond.methodLink y.1.cls ix yc.1 ∈ zAll) (hs : Cond.static yc.1 ∈ zAll) (hM : zM d2 yc av (sh, R, I) (some (.inr (.inr (some x)))) (sh, R, I2) 0 0) (hn : av.length = n) (hR : d2 + 1 ≤ d ∧ yc.2.2.1 ≤ 40) (hst : (st.map zcat).sum ≤ 8) (k : zG d y 0 0 r σ' n0 pc' lv (.inr (.inr (some x)) :: st) (sh, R, I2) 0 0) : zG d y 0 0 r σ' n0 pc lv (av.reverse ++ st) (sh, R, I) 0 0 :=
  zg_invS hd hc hw hs hM hn hR hst ⟨Nat.le_refl _, Nat.le_refl _⟩ zfix k
theorem zg_invSN_r {av st : List zV} {x : Nat} {host : String} (hd : zD y.2.1 pc (.invokestatic ix) 3 pc') (hc : zCallee yc n) (hw : (y.1.cls, ix, yc.1, host) ∈ zXn) (hs : Cond.static yc.1 ∈ zAll) (hM : zM d2 yc av (sh, R, I) (some (.inr (.inr (some x)))) (sh, R, I2) 0 0) (hn : av.length = n) (hR : d2 + 1 ≤ d ∧ yc.2.2.1 ≤ 40) (hst : (st.map zcat).sum ≤ 8) (k : zG d y 0 0 r σ' n0 pc' lv (.inr (.inr (some x)) :: st) (sh, R, I2) 0 0) : zG d y 0 0 r σ' n0 pc lv (av.reverse ++ st) (sh, R, I) 0 0 :=
  zg_invSN hd hc hw hs hM hn hR hst ⟨Nat.le_refl _, Nat.le_refl _⟩ zfix k
theorem zg_invV_r {av st : List zV} {x : Nat} {b ci : Nat} {q : vw_C} (hd : zD y.2.1 pc (.invokevirtual ix) 3 pc') (hc : zCallee yc n) (hw : Cond.methodLink y.1.cls ix yc.1 ∈ zAll) (hi : Cond.instanceMethod yc.1 ∈ zAll) (hse : Cond.selects yc.1.cls yc.1 yc.1 ∈ zAll) (hb : sh[b]? = some (.inl ci)) (hq : zCl[ci]? = some q) (hqc : yc.1.cls = q.1) (hM : zM d2 yc (.inr (.inr (some b)) :: av) (sh, R, I) (some (.inr (.inr (some x)))) (sh, R, I2) 0 0) (hn : av.length = n) (hR : d2 + 1 ≤ d ∧ yc.2.2.1 ≤ 40) (hst : (st.map zcat).sum ≤ 8) (k : zG d y 0 0 r σ' n0 pc' lv (.inr (.inr (some x)) :: st) (sh, R, I2) 0 0) : zG d y 0 0 r σ' n0 pc lv (av.reverse ++ .inr (.inr (some b)) :: st) (sh, R, I) 0 0 :=
  zg_invV hd hc hw hi hse hb hq hqc hM hn hR hst ⟨Nat.le_refl _, Nat.le_refl _⟩ zfix k
theorem zg_invX_r {av st : List zV} {x : Nat} {b : Nat} (hd : zD y.2.1 pc (.invokevirtual ix) 3 pc') (hc : zCallee yc n) (hw : Cond.methodLink y.1.cls ix yc.1 ∈ zAll) (hi : Cond.instanceMethod yc.1 ∈ zAll) (hse : Cond.selects yc.1.cls yc.1 yc.1 ∈ zAll) (hb : (yc.1.cls, b) ∈ zXo) (hM : zM d2 yc (.inr (.inr (some b)) :: av) (sh, R, I) (some (.inr (.inr (some x)))) (sh, R, I2) 0 0) (hn : av.length = n) (hR : d2 + 1 ≤ d ∧ yc.2.2.1 ≤ 40) (hst : (st.map zcat).sum ≤ 8) (k : zG d y 0 0 r σ' n0 pc' lv (.inr (.inr (some x)) :: st) (sh, R, I2) 0 0) : zG d y 0 0 r σ' n0 pc lv (av.reverse ++ .inr (.inr (some b)) :: st) (sh, R, I) 0 0 :=
  zg_invX hd hc hw hi hse hb hM hn hR hst ⟨Nat.le_refl _, Nat.le_refl _⟩ zfix k
end ZK
