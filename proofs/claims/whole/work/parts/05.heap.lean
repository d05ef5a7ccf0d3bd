/-! THE RULES, heap, statics, ends and calls -/
def zb (x : Int32) (n : Nat) : Bool := decide (0 ≤ x.toInt) && decide (x.toInt < (n : Int))
theorem zb_in {x : Int32} {n : Nat} (h : zb x n = true) : vp_in x n := by
  simp only [zb, Bool.and_eq_true, decide_eq_true_eq] at h
  exact vp_in_iff.mpr h
theorem zN_eq {ci : Nat} {q : vw_C} (h : zCl[ci]? = some q) : zN ci = q.2.2 := by
  unfold zN
  rw [h]
theorem zfs_at {ad : Nat → Nat} {ci i k : Nat} {R : zRf} {I : zI} (hk : k < zN ci) : (zfs ad ci i R I)[k]? = some (zfv ad ci i R I k) := by
  simp [zfs, hk]
/-- a class's pool entry is the field k of class ci -/
def zLkF (own : String) (ix ci k : Nat) : Prop := ∃ q : vw_C, zCl[ci]? = some q ∧ k < q.2.2 ∧ Cond.fieldLink own ix q.1 (q.2.1 k).2.1 (q.2.1 k).2.2.1 ∈ zAll
def zLkP (own : String) (ix ci k : Nat) : Prop := ∃ q : vw_C, zCl[ci]? = some q ∧ k < q.2.2 ∧ Cond.fieldLink own ix q.1 (q.2.1 k).2.1 (q.2.1 k).2.2.1 ∈ zAll ∧ (q.2.1 k).2.2.2 = false
def zStI (ty : FieldType) (x : Int32) : Prop := narrow ty (.int x) = .int x ∧ fits ty (.int x) = true
theorem zSt_int (x : Int32) : zStI .int x := ⟨rfl, rfl⟩
theorem zSt_b0 : zStI .boolean 0 := ⟨by decide, by decide⟩
theorem zSt_b1 : zStI .boolean 1 := ⟨by decide, by decide⟩
def zbb (x : Int32) : Bool := decide (x = 0) || decide (x = 1)
theorem zSt_bb {x : Int32} (h : zbb x = true) : zStI .boolean x := by
  simp only [zbb, Bool.or_eq_true, decide_eq_true_eq] at h
  rcases h with rfl | rfl
  · exact zSt_b0
  · exact zSt_b1
def zcpOk (sp dp n : Int32) (n0 n1 : Nat) : Bool := decide (0 ≤ sp.toInt) && decide (0 ≤ dp.toInt) && decide (0 ≤ n.toInt) && decide (sp.toInt + n.toInt ≤ (n0 : Int)) && decide (dp.toInt + n.toInt ≤ (n1 : Int))
theorem zn_lt {x : Int32} (h : 0 ≤ x.toInt) : ¬ x < 0 := by
  intro h2
  have := Int32.lt_iff_toInt_lt.mp h2
  simp at this
  omega
theorem zn_cl {x : Int32} (h : 0 ≤ x.toInt) : (x.toNatClampNeg : Int) = x.toInt := by
  show ((x.toInt.toNat : Nat) : Int) = x.toInt
  omega
section ZH
variable {d : Nat} {y : zMt} {mc ms : Nat} {r : Option zV} {σ' : zS} {n0 pc pc' : Nat} {lv lv' : List (Nat × zV)} {st : List zV} {σ : zS} {cells slots : Nat}
theorem zg_lcmp {a b : Int64} (hd : zD y.2.1 pc .lcmp 1 pc') (k : zG d y mc ms r σ' n0 pc' lv (.inl (lg_cmp a b) :: st) σ cells slots) : zG d y mc ms r σ' n0 pc lv (.inr (.inl b) :: .inr (.inl a) :: st) σ cells slots := by
  obtain ⟨hd, rfl⟩ := hd
  intro p l e s m args below meth c A dC dI cA ad0 ad H locs ls cx hE hH hl
  exact W.lcmp cx.1 cx.2.1 hd (k p l e s m args below meth c A dC dI cA ad0 ad H locs ls cx hE hH hl)
theorem zg_getI {ix i ci k : Nat} {x : Int32} (hd : zD y.2.1 pc (.getfield ix) 3 pc') (hk : zLkF y.1.cls ix ci k) (hs : σ.1[i]? = some (.inl ci)) (hi : zIntT (zTy ci k) = true) (hx : σ.2.2 i k = x) (kk : zG d y mc ms r σ' n0 pc' lv (.inl x :: st) σ cells slots) : zG d y mc ms r σ' n0 pc lv (.inr (.inr (some i)) :: st) σ cells slots := by
  obtain ⟨hd, rfl⟩ := hd
  obtain ⟨q, hq, hkn, hw⟩ := hk
  subst hx
  intro p l e s m args below meth c A dC dI cA ad0 ad H locs ls cx hE hH hl
  have ho := zCl_ow ci q hq k hkn
  refine va_get (D := (dC, dI)) (v := .int (σ.2.2 i k)) (C := q.1) (T := q.2.1) (N := q.2.2) cx.1 cx.2.1 cx.2.2.2.2.2.1 (fun w hw2 => List.mem_cons_of_mem _ (zCl_in hq w hw2)) cx.2.2.2.2.1 hH.1 hH.2.1 i (zW_at hs) hq k hkn (cx.2.2.2.2.2.1 _ (List.mem_cons_of_mem _ hw)) (fun x h9 => by rw [ho] at h9; exact h9) ?_ hd (kk p l e s m args below meth c A dC dI cA ad0 ad H locs ls cx hE hH hl)
  rw [zfs_at (by rw [zN_eq hq]; exact hkn)]
  simp [zfv, hi]
theorem zg_getR {ix i ci k j : Nat} (hd : zD y.2.1 pc (.getfield ix) 3 pc') (hk : zLkF y.1.cls ix ci k) (hs : σ.1[i]? = some (.inl ci)) (hi : zIntT (zTy ci k) = false) (hr : σ.2.1 i k = some j) (kk : zG d y mc ms r σ' n0 pc' lv (.inr (.inr (some j)) :: st) σ cells slots) : zG d y mc ms r σ' n0 pc lv (.inr (.inr (some i)) :: st) σ cells slots := by
  obtain ⟨hd, rfl⟩ := hd
  obtain ⟨q, hq, hkn, hw⟩ := hk
  intro p l e s m args below meth c A dC dI cA ad0 ad H locs ls cx hE hH hl
  have ho := zCl_ow ci q hq k hkn
  refine va_get (D := (dC, dI)) (v := .ref (ad j)) (C := q.1) (T := q.2.1) (N := q.2.2) cx.1 cx.2.1 cx.2.2.2.2.2.1 (fun w hw2 => List.mem_cons_of_mem _ (zCl_in hq w hw2)) cx.2.2.2.2.1 hH.1 hH.2.1 i (zW_at hs) hq k hkn (cx.2.2.2.2.2.1 _ (List.mem_cons_of_mem _ hw)) (fun x h9 => by rw [ho] at h9; exact h9) ?_ hd (kk p l e s m args below meth c A dC dI cA ad0 ad H locs ls cx hE hH hl)
  rw [zfs_at (by rw [zN_eq hq]; exact hkn)]
  simp [zfv, hi, hr, va_rf]
theorem zg_putI {sh : List zK} {R : zRf} {I : zI} {ix i ci k : Nat} {x : Int32} (hd : zD y.2.1 pc (.putfield ix) 3 pc') (hk : zLkP y.1.cls ix ci k) (hs : sh[i]? = some (.inl ci)) (hi : zIntT (zTy ci k) = true) (hx : zStI (zTy ci k) x) (kk : zG d y mc ms r σ' n0 pc' lv st (sh, R, zup I i k x) cells slots) : zG d y mc ms r σ' n0 pc lv (.inl x :: .inr (.inr (some i)) :: st) (sh, R, I) cells slots := by
  obtain ⟨hd, rfl⟩ := hd
  obtain ⟨q, hq, hkn, hw, hf⟩ := hk
  intro p l e s m args below meth c A dC dI cA ad0 ad H locs ls cx hE hH hl
  have ho := zCl_ow ci q hq k hkn
  obtain ⟨hK, hP, hD, hS⟩ := hH
  have hz : (zW ad cA (sh, R, I))[i]? = some (ad i, .inr (ci, zfs ad ci i R I)) := zW_at (σ := (sh, R, I)) hs
  refine va_put (D := (dC, dI)) (fs := zfs ad ci i R I) (v := .int x) (ty := zTy ci k) (C := q.1) (T := q.2.1) (N := q.2.2) cx.1 cx.2.1 cx.2.2.2.2.2.1 (fun w hw2 => List.mem_cons_of_mem _ (zCl_in hq w hw2)) (zTy ci) (zCl_ty ci q hq) (zCl_nm ci q hq) cx.2.2.2.2.1 hK hP hD hS i hz hq k hkn (cx.2.2.2.2.2.1 _ (List.mem_cons_of_mem _ hw)) (fun x h9 => by rw [ho] at h9; exact h9) hf (zCl_ty ci q hq k hkn) hx.1 hx.2 (by simp [zfs, zN_eq hq, hkn]) hd (fun H1 locs1 hP1 hD1 hS1 => ?_)
  have hkz : k < zN ci := by rw [zN_eq hq]; exact hkn
  rw [zW_setFld hs hkz hi] at hP1 hD1
  exact kk p l e s m args below meth c A dC dI cA ad0 ad H1 locs1 ls cx hE ⟨hK, hP1, hD1, hS1⟩ hl
theorem zg_iald {i n : Nat} {x w : Int32} (hd : zD y.2.1 pc .iaload 1 pc') (hs : σ.1[i]? = some (.inr (0, n))) (hb : zb x n = true) (hw : σ.2.2 i x.toNatClampNeg = w) (kk : zG d y mc ms r σ' n0 pc' lv (.inl w :: st) σ cells slots) : zG d y mc ms r σ' n0 pc lv (.inl x :: .inr (.inr (some i)) :: st) σ cells slots := by
  obtain ⟨hd, rfl⟩ := hd
  subst hw
  intro p l e s m args below meth c A dC dI cA ad0 ad H locs ls cx hE hH hl
  exact va_iald cx.1 cx.2.1 hH.1 hH.2.1 i 0 (zW_at hs) rfl (zb_in hb) hd (kk p l e s m args below meth c A dC dI cA ad0 ad H locs ls cx hE hH hl)
theorem zg_iast {sh : List zK} {R : zRf} {I : zI} {i n : Nat} {x v : Int32} (hd : zD y.2.1 pc .iastore 1 pc') (hs : sh[i]? = some (.inr (0, n))) (hb : zb x n = true) (kk : zG d y mc ms r σ' n0 pc' lv st (sh, R, zup I i x.toNatClampNeg v) cells slots) : zG d y mc ms r σ' n0 pc lv (.inl v :: .inl x :: .inr (.inr (some i)) :: st) (sh, R, I) cells slots := by
  obtain ⟨hd, rfl⟩ := hd
  intro p l e s m args below meth c A dC dI cA ad0 ad H locs ls cx hE hH hl
  obtain ⟨hK, hP, hD, hS⟩ := hH
  have hz : (zW ad cA (sh, R, I))[i]? = some (ad i, .inl (cA 0, n, .inl (I i))) := zW_at (σ := (sh, R, I)) hs
  refine va_iast cx.1 cx.2.1 hK hP hD hS i 0 hz rfl (zb_in hb) hd (fun H1 locs1 hP1 hD1 hS1 => ?_)
  have e1 := zW_setRow (ad := ad) (cA := cA) (R := R) (I := I) (f := upd (I i) x.toNatClampNeg v) hs
  rw [← zup_row] at e1
  refine kk p l e s m args below meth c A dC dI cA ad0 ad H1 locs1 ls cx hE ⟨hK, ?_, ?_, hS1⟩ hl
  · rw [← e1]; exact hP1
  · rw [← e1]; exact hD1
theorem zg_aald1 {i n j : Nat} {x : Int32} (hd : zD y.2.1 pc .aaload 1 pc') (hs : σ.1[i]? = some (.inr (1, n))) (hb : zb x n = true) (hr : σ.2.1 i x.toNatClampNeg = some j) (kk : zG d y mc ms r σ' n0 pc' lv (.inr (.inr (some j)) :: st) σ cells slots) : zG d y mc ms r σ' n0 pc lv (.inl x :: .inr (.inr (some i)) :: st) σ cells slots := by
  obtain ⟨hd, rfl⟩ := hd
  intro p l e s m args below meth c A dC dI cA ad0 ad H locs ls cx hE hH hl
  have hin := zb_in hb
  have hlt : x.toNatClampNeg < n := Nat.not_le.mp fun q => hin (Or.inr q)
  refine W.aald (v := .ref (ad j)) (ty := .array .int) cx.1 cx.2.1 (hH.2.1 i _ (zW_at hs)) ((hH.1.2 1 _ rfl).1 n (fun j => va_rf ((σ.2.1 i j).map ad))) rfl (fun q => by cases q) (by show ¬ (x < 0 ∨ (arrV _ _ _).slots.size ≤ _); rw [arrV_size]; exact hin) (by show (arrV _ _ _).slots[_]? = _; rw [arrV_read _ _ hlt]; show some (va_rf (Option.map ad (σ.2.1 i x.toNatClampNeg))) = _; rw [hr]; rfl) rfl rfl hd (kk p l e s m args below meth c A dC dI cA ad0 ad H locs ls cx hE hH hl)
theorem zg_aald2 {i n j : Nat} {x : Int32} (hd : zD y.2.1 pc .aaload 1 pc') (hs : σ.1[i]? = some (.inr (2, n))) (hb : zb x n = true) (hr : σ.2.1 i x.toNatClampNeg = some j) (kk : zG d y mc ms r σ' n0 pc' lv (.inr (.inr (some j)) :: st) σ cells slots) : zG d y mc ms r σ' n0 pc lv (.inl x :: .inr (.inr (some i)) :: st) σ cells slots := by
  obtain ⟨hd, rfl⟩ := hd
  intro p l e s m args below meth c A dC dI cA ad0 ad H locs ls cx hE hH hl
  have hin := zb_in hb
  have hlt : x.toNatClampNeg < n := Nat.not_le.mp fun q => hin (Or.inr q)
  refine W.aald (v := .ref (ad j)) (ty := .object "java/lang/String") cx.1 cx.2.1 (hH.2.1 i _ (zW_at hs)) ((hH.1.2 2 _ rfl).1 n (fun j => va_rf ((σ.2.1 i j).map ad))) rfl (fun q => by cases q) (by show ¬ (x < 0 ∨ (arrV _ _ _).slots.size ≤ _); rw [arrV_size]; exact hin) (by show (arrV _ _ _).slots[_]? = _; rw [arrV_read _ _ hlt]; show some (va_rf (Option.map ad (σ.2.1 i x.toNatClampNeg))) = _; rw [hr]; rfl) rfl rfl hd (kk p l e s m args below meth c A dC dI cA ad0 ad H locs ls cx hE hH hl)
theorem zg_alen {i n : Nat} {v : Int32} (hd : zD y.2.1 pc .arraylength 1 pc') (hs : σ.1[i]? = some (.inr (0, n))) (hv : Int32.ofNat n = v) (kk : zG d y mc ms r σ' n0 pc' lv (.inl v :: st) σ cells slots) : zG d y mc ms r σ' n0 pc lv (.inr (.inr (some i)) :: st) σ cells slots := by
  obtain ⟨hd, rfl⟩ := hd
  intro p l e s m args below meth c A dC dI cA ad0 ad H locs ls cx hE hH hl
  exact va_alen cx.1 cx.2.1 hH.1 hH.2.1 i 0 (zW_at hs) rfl hv hd (kk p l e s m args below meth c A dC dI cA ad0 ad H locs ls cx hE hH hl)
theorem zg_gst {C n de : String} {v : zV} {ix : Nat} (hd : zD y.2.1 pc (.getstatic ix) 3 pc') (hq : (C, n, de, v) ∈ zXst) (hw : Cond.fieldLink y.1.cls ix C n de ∈ zAll) (kk : zG d y mc ms r σ' n0 pc' lv (v :: st) σ cells slots) : zG d y mc ms r σ' n0 pc lv st σ cells slots := by
  obtain ⟨hd, rfl⟩ := hd
  intro p l e s m args below meth c A dC dI cA ad0 ad H locs ls cx hE hH hl
  have hX := zX.ext hE cx.2.2.2.2.2.2.2.2.1
  exact va_gets (C := C) (n := n) (d := de) cx.1 cx.2.1 (hX.1 _ hq) hH.2.2.2 cx.2.2.2.2.1 (cx.2.2.2.2.2.1 _ (List.mem_cons_of_mem _ hw)) (fun _ h => h) hd (kk p l e s m args below meth c A dC dI cA ad0 ad H locs ls cx hE hH hl)
theorem zg_gstN {C n de host : String} {v : zV} {ix : Nat} (hd : zD y.2.1 pc (.getstatic ix) 3 pc') (hq : (C, n, de, v) ∈ zXst) (hw : (y.1.cls, ix, C, n, de, host) ∈ zXnf) (kk : zG d y mc ms r σ' n0 pc' lv (v :: st) σ cells slots) : zG d y mc ms r σ' n0 pc lv st σ cells slots := by
  obtain ⟨hd, rfl⟩ := hd
  intro p l e s m args below meth c A dC dI cA ad0 ad H locs ls cx hE hH hl
  have hX := zX.ext hE cx.2.2.2.2.2.2.2.2.1
  have hY := cx.2.2.2.2.2.2.2.2.2.1
  exact va_getsN (C := C) (n := n) (d := de) (host := host) cx.1 cx.2.1 (hX.1 _ hq) hH.2.2.2 cx.2.2.2.2.1 ((hY.2.1 _ hw).use rfl) (fun _ h => h) hd (kk p l e s m args below meth c A dC dI cA ad0 ad H locs ls cx hE hH hl)
theorem zg_gstQ {ix : Nat} (hd : zD y.2.1 pc (.getstatic ix) 3 pc') (hw : Cond.fieldLink y.1.cls ix "jdk/internal/util/Preconditions" "SIOOBE_FORMATTER" "Ljava/util/function/BiFunction;" ∈ zAll) (kk : ∀ fx : Option Nat, zG d y mc ms r σ' n0 pc' lv (.inr (.inr fx) :: st) σ cells slots) : zG d y mc ms r σ' n0 pc lv st σ cells slots := by
  obtain ⟨hd, rfl⟩ := hd
  intro p l e s m args below meth c A dC dI cA ad0 ad H locs ls cx hE hH hl
  have hX := zX.ext hE cx.2.2.2.2.2.2.2.2.1
  obtain ⟨-, -, -, -, ⟨fx, -, hz⟩, -⟩ := hX
  exact va_gets cx.1 cx.2.1 hz hH.2.2.2 cx.2.2.2.2.1 (cx.2.2.2.2.2.1 _ (List.mem_cons_of_mem _ hw)) (fun _ h => h) hd (kk fx p l e s m args below meth c A dC dI cA ad0 ad H locs ls cx hE hH hl)
theorem zg_tiald {t N : Nat} {f : List Int32} {x : Int32} (hd : zD y.2.1 pc .iaload 1 pc') (ht : (FieldType.int, t, N, f) ∈ zXt) (hb : zb x N = true) (kk : zG d y mc ms r σ' n0 pc' lv (.inl (zLst f x.toNatClampNeg) :: st) σ cells slots) : zG d y mc ms r σ' n0 pc lv (.inl x :: .inr (.inr (some t)) :: st) σ cells slots := by
  obtain ⟨hd, rfl⟩ := hd
  intro p l e s m args below meth c A dC dI cA ad0 ad H locs ls cx hE hH hl
  have hX := zX.ext hE cx.2.2.2.2.2.2.2.2.1
  exact va_ti cx.1 cx.2.1 (hX.2.1 _ ht) hH.2.2.2 (zb_in hb) rfl hd (kk p l e s m args below meth c A dC dI cA ad0 ad H locs ls cx hE hH hl)
theorem zg_tcald {t N : Nat} {f : List Int32} {x : Int32} (hd : zD y.2.1 pc .caload 1 pc') (ht : (FieldType.char, t, N, f) ∈ zXt) (hb : zb x N = true) (kk : zG d y mc ms r σ' n0 pc' lv (.inl (zLst f x.toNatClampNeg) :: st) σ cells slots) : zG d y mc ms r σ' n0 pc lv (.inl x :: .inr (.inr (some t)) :: st) σ cells slots := by
  obtain ⟨hd, rfl⟩ := hd
  intro p l e s m args below meth c A dC dI cA ad0 ad H locs ls cx hE hH hl
  have hX := zX.ext hE cx.2.2.2.2.2.2.2.2.1
  exact va_tc cx.1 cx.2.1 (hX.2.1 _ ht) hH.2.2.2 (zb_in hb) rfl hd (kk p l e s m args below meth c A dC dI cA ad0 ad H locs ls cx hE hH hl)
theorem zg_tbald {t N : Nat} {f : List Int32} {x : Int32} (hd : zD y.2.1 pc .baload 1 pc') (ht : (FieldType.byte, t, N, f) ∈ zXt) (hb : zb x N = true) (kk : zG d y mc ms r σ' n0 pc' lv (.inl (zLst f x.toNatClampNeg) :: st) σ cells slots) : zG d y mc ms r σ' n0 pc lv (.inl x :: .inr (.inr (some t)) :: st) σ cells slots := by
  obtain ⟨hd, rfl⟩ := hd
  intro p l e s m args below meth c A dC dI cA ad0 ad H locs ls cx hE hH hl
  have hX := zX.ext hE cx.2.2.2.2.2.2.2.2.1
  exact va_tb cx.1 cx.2.1 (hX.2.1 _ ht) hH.2.2.2 (zb_in hb) rfl hd (kk p l e s m args below meth c A dC dI cA ad0 ad H locs ls cx hE hH hl)
theorem zg_tlen {ty : FieldType} {t N : Nat} {f : List Int32} {v : Int32} (hd : zD y.2.1 pc .arraylength 1 pc') (ht : (ty, t, N, f) ∈ zXt) (hv : Int32.ofNat N = v) (kk : zG d y mc ms r σ' n0 pc' lv (.inl v :: st) σ cells slots) : zG d y mc ms r σ' n0 pc lv (.inr (.inr (some t)) :: st) σ cells slots := by
  obtain ⟨hd, rfl⟩ := hd
  intro p l e s m args below meth c A dC dI cA ad0 ad H locs ls cx hE hH hl
  have hX := zX.ext hE cx.2.2.2.2.2.2.2.2.1
  exact va_tlen cx.1 cx.2.1 (hX.2.1 _ ht) hH.2.2.2 hv hd (kk p l e s m args below meth c A dC dI cA ad0 ad H locs ls cx hE hH hl)
theorem zg_getX {o n de : String} {v : zV} {t ix : Nat} (hd : zD y.2.1 pc (.getfield ix) 3 pc') (hq : (o, n, de, v, t) ∈ zXf) (hw : Cond.fieldLink y.1.cls ix o n de ∈ zAll) (kk : zG d y mc ms r σ' n0 pc' lv (v :: st) σ cells slots) : zG d y mc ms r σ' n0 pc lv (.inr (.inr (some t)) :: st) σ cells slots := by
  obtain ⟨hd, rfl⟩ := hd
  intro p l e s m args below meth c A dC dI cA ad0 ad H locs ls cx hE hH hl
  have hX := zX.ext hE cx.2.2.2.2.2.2.2.2.1
  exact vk_getf cx.1 cx.2.1 (hX.2.2.2.1 _ hq) hH.2.2.2 cx.2.2.2.2.1 (cx.2.2.2.2.2.1 _ (List.mem_cons_of_mem _ hw)) (fun _ h => h) hd (kk p l e s m args below meth c A dC dI cA ad0 ad H locs ls cx hE hH hl)
theorem zg_acopy {sh : List zK} {R : zRf} {I : zI} {i j n1 n2 ix : Nat} {sp dp n : Int32} (hd : zD y.2.1 pc (.invokestatic ix) 3 pc') (hw : Cond.methodLink y.1.cls ix arraycopyName ∈ zAll) (hw2 : Cond.native arraycopyName ∈ zAll ∧ Cond.static arraycopyName ∈ zAll ∧ Cond.initialized "java/lang/System" ∈ zAll) (hs : sh[i]? = some (.inr (0, n1))) (hs2 : sh[j]? = some (.inr (0, n2))) (hok : zcpOk sp dp n n1 n2 = true) (hd1 : 1 ≤ d) (hst : (st.map zcat).sum ≤ 8)
    (kk : zG d y mc ms r σ' n0 pc' lv st (sh, R, zrow I j (va_cpy (I i) (I j) sp.toNatClampNeg dp.toNatClampNeg n.toNatClampNeg)) cells slots) : zG d y mc ms r σ' n0 pc lv (.inl n :: .inl dp :: .inr (.inr (some j)) :: .inl sp :: .inr (.inr (some i)) :: st) (sh, R, I) cells slots := by
  obtain ⟨hd, rfl⟩ := hd
  simp only [zcpOk, Bool.and_eq_true, decide_eq_true_eq] at hok
  obtain ⟨⟨⟨⟨h1, h2⟩, h3⟩, h4⟩, h5⟩ := hok
  have c1 := zn_cl h1
  have c2 := zn_cl h2
  have c3 := zn_cl h3
  intro p l e s m args below meth c A dC dI cA ad0 ad H locs ls cx hE hH hl
  obtain ⟨hK, hP, hD, hS⟩ := hH
  have hsum : ((st.map (zcv ad)).map fun v => v.category).sum = (st.map zcat).sum := by
    rw [List.map_map]
    congr 1
    apply List.map_congr_left
    intro v _
    exact zcv_cat ad v
  have hz : (zW ad cA (sh, R, I))[i]? = some (ad i, .inl (cA 0, n1, .inl (I i))) := zW_at (σ := (sh, R, I)) hs
  have hz2 : (zW ad cA (sh, R, I))[j]? = some (ad j, .inl (cA 0, n2, .inl (I j))) := zW_at (σ := (sh, R, I)) hs2
  refine va_copyi cx.1 cx.2.1 (cx.2.2.2.1.trans hl.1.symm) cx.2.2.2.2.1 (cx.2.2.2.2.2.1 _ (List.mem_cons_of_mem _ hw)) (cx.2.2.2.2.2.1 _ (List.mem_cons_of_mem _ hw2.1)) (cx.2.2.2.2.2.1 _ (List.mem_cons_of_mem _ hw2.2.1)) (cx.2.2.2.2.2.1 _ (List.mem_cons_of_mem _ hw2.2.2)) hK hP hD hS i j 0 0 (n0 := n1) (n1 := n2) (ty := .int) hz hz2 rfl rfl rfl (zn_lt h1) (zn_lt h2) (zn_lt h3) (by omega) (by omega) (fun _ _ => rfl) hd1 ?_ hd (fun H1 locs1 hP1 hD1 hS1 => ?_)
  · rw [hsum]
    have e9 : nativeFrameWords "java/lang/System" "arraycopy" 5 ≤ 40 := by decide +kernel
    show _ ≤ 64 * d
    omega
  · rw [zW_setRow hs2] at hP1 hD1
    exact kk p l e s m args below meth c A dC dI cA ad0 ad H1 locs1 ls cx hE ⟨hK, hP1, hD1, hS1⟩ hl
theorem zg_iret {x : Int32} (hd : zD y.2.1 pc .ireturn 1 pc') (hr : y.2.2.2 = some .int) : zG d y mc ms (some (.inl x)) σ n0 pc lv [.inl x] σ mc ms := by
  obtain ⟨hd, rfl⟩ := hd
  intro p l e s m args below meth c A dC dI cA ad0 ad H locs ls cx hE hH hl
  obtain ⟨hK, hP, hD, hS⟩ := hH
  exact W.iret (v := x) cx.1 cx.2.1 (cx.2.2.1.trans hr) (fun t ht hW => ⟨⟨ad, hE, rfl, by rw [ht]; exact hP, va_K.moved hW.alike hK, hD⟩, hS.F ht⟩) hS.2.2 hd cx.2.2.2.2.2.2.1
theorem zg_zret {x : Int32} {ty : FieldType} (hd : zD y.2.1 pc .ireturn 1 pc') (hr : y.2.2.2 = some ty) (hn : narrow ty (.int x) = .int x) : zG d y mc ms (some (.inl x)) σ n0 pc lv [.inl x] σ mc ms := by
  obtain ⟨hd, rfl⟩ := hd
  intro p l e s m args below meth c A dC dI cA ad0 ad H locs ls cx hE hH hl
  obtain ⟨hK, hP, hD, hS⟩ := hH
  exact W.zret (v := x) cx.1 cx.2.1 (cx.2.2.1.trans hr) hn (fun t ht hW => ⟨⟨ad, hE, rfl, by rw [ht]; exact hP, va_K.moved hW.alike hK, hD⟩, hS.F ht⟩) hS.2.2 hd cx.2.2.2.2.2.2.1
theorem zg_vret (hd : zD y.2.1 pc .return_ 1 pc') (hr : y.2.2.2 = none) : zG d y mc ms none σ n0 pc lv [] σ mc ms := by
  obtain ⟨hd, rfl⟩ := hd
  intro p l e s m args below meth c A dC dI cA ad0 ad H locs ls cx hE hH hl
  obtain ⟨hK, hP, hD, hS⟩ := hH
  exact W.vret cx.1 cx.2.1 (cx.2.2.1.trans hr) (fun t ht hW => ⟨⟨ad, hE, rfl, by rw [ht]; exact hP, va_K.moved hW.alike hK, hD⟩, hS.F ht⟩) hS.2.2 hd cx.2.2.2.2.2.2.1
theorem zg_aret {i : Nat} {C : String} (hd : zD y.2.1 pc .areturn 1 pc') (hr : y.2.2.2 = some (.object C)) : zG d y mc ms (some (.inr (.inr (some i)))) σ n0 pc lv [.inr (.inr (some i))] σ mc ms := by
  obtain ⟨hd, rfl⟩ := hd
  intro p l e s m args below meth c A dC dI cA ad0 ad H locs ls cx hE hH hl
  obtain ⟨hK, hP, hD, hS⟩ := hH
  exact W.aret (v := .ref (ad i)) cx.1 cx.2.1 (cx.2.2.1.trans hr) (Or.inl ⟨C, rfl⟩) (Or.inr ⟨_, rfl⟩) (fun t ht hW => ⟨⟨ad, hE, rfl, by rw [ht]; exact hP, va_K.moved hW.alike hK, hD⟩, hS.F ht⟩) hS.2.2 hd cx.2.2.2.2.2.2.1
end ZH
