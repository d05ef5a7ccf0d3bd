/-! CONSTRUCTION: new cells -/
def zrn (R : zRf) (i k : Nat) (v : Option Nat) : zRf := fun a b => if a = i ∧ b = k then v else R a b
def zrr (R : zRf) (i N : Nat) : zRf := fun a b => if a = i then (if b < N then some (i + 1 + b) else none) else R a b
/-- cells from m on are still blank; what stands speaks of cells below m, or of what lies outside -/
def zFr (m : Nat) (R : zRf) (I : zI) : Prop := (∀ a b j, R a b = some j → a < m ∧ (j < m ∨ 100000 ≤ j)) ∧ ∀ a, m ≤ a → ∀ b, I a b = 0
theorem zFr.up {m m' : Nat} {R : zRf} {I : zI} (h : zFr m R I) (hm : m ≤ m') : zFr m' R I :=
  ⟨fun a b j e => ⟨by have := (h.1 a b j e).1; omega, by have := (h.1 a b j e).2; omega⟩, fun a ha b => h.2 a (by omega) b⟩
theorem zFr.rn {m i k j : Nat} {R : zRf} {I : zI} (h : zFr m R I) (hi : i < m) (hj : j < m ∨ 100000 ≤ j) : zFr m (zrn R i k (some j)) I := by
  refine ⟨fun a b x e => ?_, h.2⟩
  unfold zrn at e
  by_cases hc : a = i ∧ b = k
  · rw [if_pos hc] at e
    cases e
    exact ⟨by omega, hj⟩
  · rw [if_neg hc] at e
    exact h.1 a b x e
theorem zFr.rr {m i N : Nat} {R : zRf} {I : zI} (h : zFr m R I) (hi : i + N < m) : zFr m (zrr R i N) I := by
  refine ⟨fun a b x e => ?_, h.2⟩
  unfold zrr at e
  by_cases hc : a = i
  · rw [if_pos hc] at e
    by_cases hb : b < N
    · rw [if_pos hb] at e
      cases e
      exact ⟨by omega, Or.inl (by omega)⟩
    · rw [if_neg hb] at e
      cases e
  · rw [if_neg hc] at e
    exact h.1 a b x e
theorem zFr.zi {m i : Nat} {R : zRf} {I : zI} {f : Nat → Int32} (h : zFr m R I) (hi : i < m) : zFr m R (zrow I i f) := by
  refine ⟨h.1, fun a ha b => ?_⟩
  unfold zrow
  rw [if_neg (by omega)]
  exact h.2 a ha b
theorem zFr.zu {m i k : Nat} {R : zRf} {I : zI} {x : Int32} (h : zFr m R I) (hi : i < m) : zFr m R (zup I i k x) := by
  rw [zup_row]
  exact h.zi hi
theorem zFr.row {m : Nat} {R : zRf} {I : zI} (h : zFr m R I) : R m = fun _ => none := by
  funext b
  cases e : R m b with
  | none => rfl
  | some j => exact absurd (h.1 m b j e).1 (Nat.lt_irrefl _)
theorem zen_ext {m m' : Nat} {ad ad' : Nat → Nat} {cA : Nat → ClassId} {R : zRf} {I : zI} (hF : zFr m R I) (hE : zE m m' ad ad') (i : Nat) (k : zK) : zen ad' cA R I i k = zen ad cA R I i k := by
  have hm : ∀ b, (R i b).map ad' = (R i b).map ad := fun b => by
    cases e : R i b with
    | none => rfl
    | some j =>
      have h1 := (hF.1 i b j e).2
      have h2 := hE.2.1
      show some (ad' j) = some (ad j)
      rw [hE.2.2 j (by omega)]
  rcases k with ci | ⟨t, n⟩
  · show Sum.inr (ci, zfs ad' ci i R I) = Sum.inr (ci, zfs ad ci i R I)
    have e2 : zfs ad' ci i R I = zfs ad ci i R I := by
      unfold zfs
      apply List.map_congr_left
      intro b _
      unfold zfv
      rw [hm b]
    rw [e2]
  · cases t with
    | zero => rfl
    | succ t =>
      show Sum.inl (cA (t + 1), n, Sum.inr (Sum.inr (Sum.inr (Sum.inr (fun j => (R i j).map ad'))))) = Sum.inl (cA (t + 1), n, Sum.inr (Sum.inr (Sum.inr (Sum.inr (fun j => (R i j).map ad)))))
      rw [show (fun j => (R i j).map ad') = (fun j => (R i j).map ad) from funext hm]
theorem zW_app {ad : Nat → Nat} {cA : Nat → ClassId} {sh L : List zK} {R : zRf} {I : zI} : zW ad cA (sh ++ L, R, I) = zW ad cA (sh, R, I) ++ L.mapIdx (fun i k => (ad (i + sh.length), zen ad cA R I (i + sh.length) k)) := by
  show (sh ++ L).mapIdx _ = sh.mapIdx _ ++ _
  rw [List.mapIdx_append]
theorem zW_ext {m' : Nat} {ad ad' : Nat → Nat} {cA : Nat → ClassId} {sh : List zK} {R R' : zRf} {I : zI} (hF : zFr sh.length R I) (hE : zE sh.length m' ad ad') (hR : ∀ a, a < sh.length → R' a = R a) : zW ad' cA (sh, R', I) = zW ad cA (sh, R, I) := by
  apply List.ext_getElem?
  intro j
  simp only [zW, List.getElem?_mapIdx]
  cases hj : sh[j]? with
  | none => rfl
  | some k =>
    have hl : j < sh.length := (List.getElem?_eq_some_iff.mp hj).1
    have e1 : zen ad' cA R' I j k = zen ad' cA R I j k := by
      have h2 := hR j hl
      rcases k with ci | ⟨t, n⟩
      · show Sum.inr (ci, zfs ad' ci j R' I) = Sum.inr (ci, zfs ad' ci j R I)
        have e2 : zfs ad' ci j R' I = zfs ad' ci j R I := by
          unfold zfs
          apply List.map_congr_left
          intro b _
          unfold zfv
          rw [h2]
        rw [e2]
      · cases t with
        | zero => rfl
        | succ t =>
          show Sum.inl (cA (t + 1), n, Sum.inr (Sum.inr (Sum.inr (Sum.inr (fun x => (R' j x).map ad'))))) = Sum.inl (cA (t + 1), n, Sum.inr (Sum.inr (Sum.inr (Sum.inr (fun x => (R j x).map ad')))))
          rw [h2]
    show some (ad' j, zen ad' cA R' I j k) = some (ad j, zen ad cA R I j k)
    rw [e1, zen_ext hF hE, hE.2.2 j (Or.inl hl)]
def zadd (ad : Nat → Nat) (n N q : Nat) : Nat → Nat := fun i => if n ≤ i ∧ i < n + N then q + (i - n) else ad i
theorem zadd_E {ad : Nat → Nat} {n N q : Nat} (h : n + N ≤ 100000) : zE n (n + N) ad (zadd ad n N q) := ⟨by omega, h, fun i hi => by
  unfold zadd
  rw [if_neg (by omega)]⟩
theorem zadd_in {ad : Nat → Nat} {n N q i : Nat} (h : i < N) : zadd ad n N q (i + n) = q + i := by
  unfold zadd
  rw [if_pos (by omega)]
  omega
theorem zLv_fix {n n' : Nat} {ad ad' : Nat → Nat} (hE : zE n n' ad ad') {lv : List (Nat × zV)} (h : (lv.all fun q => zok n q.2) = true) : zLv ad' lv = zLv ad lv := by
  unfold zLv
  apply List.map_congr_left
  intro q hq
  rw [hE.val (List.all_eq_true.mp h q hq)]
def zdfB (t : FieldType) : Bool := match t with
  | .int => true
  | .boolean => true
  | .object _ => true
  | .array _ => true
  | _ => false
theorem zdf_of {t : FieldType} (h : zdfB t = true) : defaultValue t = if zIntT t then .int 0 else .null := by
  cases t <;> first | rfl | cases h
theorem zCl_dfa : ((List.range 13).all fun ci => (List.range (zN ci)).all fun k => zdfB (zTy ci k)) = true := by decide +kernel
theorem zCl_df {ci : Nat} {q : vw_C} (hq : zCl[ci]? = some q) {k : Nat} (hk : k < q.2.2) : defaultValue (zTy ci k) = if zIntT (zTy ci k) then .int 0 else .null := by
  have h1 : ci < 13 := (List.getElem?_eq_some_iff.mp hq).1
  refine zdf_of (List.all_eq_true.mp (List.all_eq_true.mp zCl_dfa ci (List.mem_range.mpr h1)) k (List.mem_range.mpr ?_))
  rw [zN_eq hq]
  exact hk
theorem zfs_new {ad : Nat → Nat} {ci n : Nat} {R : zRf} {I : zI} {q : vw_C} (hF : zFr n R I) (hq : zCl[ci]? = some q) {k : Nat} (hk : k < q.2.2) : defaultValue (zTy ci k) = vp_V (zfs ad ci n R I) k := by
  rw [zCl_df hq hk]
  unfold vp_V
  rw [List.getD_eq_getElem?_getD, zfs_at (by rw [zN_eq hq]; exact hk)]
  show _ = zfv ad ci n R I k
  unfold zfv
  rw [hF.row, hF.2 n (Nat.le_refl _)]
  rfl
/-- the fields of an object of references -/
def zLkI (own : String) (ix ci k : Nat) : Prop := ∃ q : vw_C, zCl[ci]? = some q ∧ k < q.2.2 ∧ Cond.fieldLink own ix q.1 (q.2.1 k).2.1 (q.2.1 k).2.2.1 ∈ zAll ∧ (q.2.1 k).2.2.2 = true ∧ q.1 = own
def zrefB (t : FieldType) : Bool := match t with
  | .object _ => true
  | .array _ => true
  | _ => false
theorem zref_nar {t : FieldType} (h : zrefB t = true) (a : Nat) : narrow t (.ref a) = .ref a := by
  cases t <;> first | rfl | cases h
theorem zref_fit {t : FieldType} (h : zrefB t = true) (a : Nat) : fits t (.ref a) = true := by
  cases t <;> first | rfl | cases h
theorem zref_int {t : FieldType} (h : zrefB t = true) : zIntT t = false := by
  cases t <;> first | rfl | cases h
theorem zen_rn {ad : Nat → Nat} {cA : Nat → ClassId} {R : zRf} {I : zI} {i j k : Nat} {v : Option Nat} (h : j ≠ i) (q : zK) : zen ad cA (zrn R i k v) I j q = zen ad cA R I j q := by
  have e : zrn R i k v j = R j := by
    funext b
    unfold zrn
    rw [if_neg (fun z => h z.1)]
  rcases q with ci | ⟨t, n⟩
  · have e2 : zfs ad ci j (zrn R i k v) I = zfs ad ci j R I := by
      unfold zfs
      apply List.map_congr_left
      intro b _
      unfold zfv
      rw [e]
    show Sum.inr (ci, zfs ad ci j (zrn R i k v) I) = Sum.inr (ci, zfs ad ci j R I)
    rw [e2]
  · cases t with
    | zero => rfl
    | succ t =>
      show Sum.inl (cA (t + 1), n, Sum.inr (Sum.inr (Sum.inr (Sum.inr (fun x => (zrn R i k v j x).map ad))))) = Sum.inl (cA (t + 1), n, Sum.inr (Sum.inr (Sum.inr (Sum.inr (fun x => (R j x).map ad)))))
      rw [e]
theorem zfs_rn {ad : Nat → Nat} {ci i k j : Nat} {R : zRf} {I : zI} (hk : k < zN ci) (hi : zIntT (zTy ci k) = false) : (zfs ad ci i R I).set k (.ref (ad j)) = zfs ad ci i (zrn R i k (some j)) I := by
  apply List.ext_getElem?
  intro x
  have hl : (zfs ad ci i R I).length = zN ci := by simp [zfs]
  by_cases hx : x = k
  · subst hx
    rw [List.getElem?_set_self (by rw [hl]; exact hk)]
    simp [zfs, zfv, hk, hi, zrn, va_rf]
  · rw [List.getElem?_set_ne (Ne.symm hx)]
    by_cases h : x < zN ci
    · simp [zfs, zfv, zrn, hx, h]
    · rw [List.getElem?_eq_none (by rw [hl]; omega), List.getElem?_eq_none (by simp [zfs]; omega)]
theorem zW_setRef {ad : Nat → Nat} {cA : Nat → ClassId} {sh : List zK} {R : zRf} {I : zI} {i ci k j : Nat} (h : sh[i]? = some (.inl ci)) (hk : k < zN ci) (hi : zIntT (zTy ci k) = false) : (zW ad cA (sh, R, I)).set i (ad i, .inr (ci, (zfs ad ci i R I).set k (.ref (ad j)))) = zW ad cA (sh, zrn R i k (some j), I) := by
  apply List.ext_getElem?
  intro x
  have hl : i < (zW ad cA (sh, R, I)).length := by rw [zW_len]; exact (List.getElem?_eq_some_iff.mp h).1
  by_cases hx : x = i
  · subst hx
    rw [List.getElem?_set_self hl, zW_at (σ := (sh, zrn R x k (some j), I)) h, zfs_rn hk hi]
    rfl
  · rw [List.getElem?_set_ne (Ne.symm hx)]
    simp only [zW, List.getElem?_mapIdx]
    cases sh[x]? with
    | none => rfl
    | some q => simp [zen_rn hx]
theorem zW_setAr {ad : Nat → Nat} {cA : Nat → ClassId} {sh : List zK} {R : zRf} {I : zI} {i n t k j : Nat} (h : sh[i]? = some (.inr (t + 1, n))) : (zW ad cA (sh, R, I)).set i (ad i, .inl (cA (t + 1), n, .inr (.inr (.inr (.inr (va_up (fun x => (R i x).map ad) k (some (ad j)))))))) = zW ad cA (sh, zrn R i k (some j), I) := by
  apply List.ext_getElem?
  intro x
  have hl : i < (zW ad cA (sh, R, I)).length := by rw [zW_len]; exact (List.getElem?_eq_some_iff.mp h).1
  by_cases hx : x = i
  · subst hx
    rw [List.getElem?_set_self hl, zW_at (σ := (sh, zrn R x k (some j), I)) h]
    have e : va_up (fun y => (R x y).map ad) k (some (ad j)) = fun y => (zrn R x k (some j) x y).map ad := by
      funext y
      by_cases hy : y = k
      · subst hy
        simp [va_up, zrn]
      · simp [va_up, zrn, hy]
    rw [e]
    rfl
  · rw [List.getElem?_set_ne (Ne.symm hx)]
    simp only [zW, List.getElem?_mapIdx]
    cases sh[x]? with
    | none => rfl
    | some q => simp [zen_rn hx]
theorem arrV_cg {c : ClassId} {N : Nat} {f g : Nat → Value} (h : ∀ j, j < N → f j = g j) : arrV c N f = arrV c N g := by
  unfold arrV
  congr 2
  funext j
  exact h j.val j.isLt
theorem zouter0 (c : ClassId) (N h0 : Nat) : ∀ i, Jvm.Free.Multi.outerC c N h0 i = { cls := c, slots := (Jvm.Free.Multi.outerC c N h0 i).slots, vm := .none }
  | 0 => rfl
  | i + 1 => by
    have ih := zouter0 c N h0 i
    show (Jvm.Free.Multi.outerC c N h0 i).setSlot i (.ref (h0 + 1 + i)) = { cls := c, slots := ((Jvm.Free.Multi.outerC c N h0 i).setSlot i (.ref (h0 + 1 + i))).slots, vm := .none }
    rw [ih]
    rfl
theorem zouter (c : ClassId) (N h0 : Nat) : Jvm.Free.Multi.outerC c N h0 N = arrV c N (fun j => .ref (h0 + 1 + j)) := by
  obtain ⟨o1, o2, o3⟩ := Jvm.Free.Multi.outerC_facts c N h0 N
  have o4 := Jvm.Free.Multi.outerC_slot c N h0 N
  have e : (Jvm.Free.Multi.outerC c N h0 N).slots = (arrV c N (fun j => .ref (h0 + 1 + j))).slots := by
    apply Array.ext_getElem?
    intro j
    by_cases hj : j < N
    · rw [o4 j hj, if_pos hj, arrV_read _ _ hj]
    · rw [Array.getElem?_eq_none (by omega), Array.getElem?_eq_none (by rw [arrV_size]; omega)]
  rw [zouter0, e]
  rfl
theorem va_D_grow {A : Nat → Prop} {D : va_G} {cl : List vw_C} {ws new : va_W} {H : Heap} (hD : va_D A ws) (hP : va_P D cl ws H) (hnew : ∀ i q, new[i]? = some q → q.1 = H.size + i) (hA : ∀ a, H.size ≤ a → A a) : va_D A (ws ++ new) := by
  have key : ∀ (k : Nat) (q : Nat × va_E), (ws ++ new)[k]? = some q → (ws[k]? = some q ∧ k < ws.length ∧ q.1 < H.size) ∨ (ws.length ≤ k ∧ q.1 = H.size + (k - ws.length)) := by
    intro k q hk
    by_cases hl : k < ws.length
    · rw [List.getElem?_append_left hl] at hk
      exact Or.inl ⟨hk, hl, (hP k q hk).lt⟩
    · rw [List.getElem?_append_right (by omega)] at hk
      exact Or.inr ⟨by omega, hnew _ q hk⟩
  refine ⟨fun i j x y hi hj hxy => ?_, fun k q hk => ?_⟩
  · rcases key i x hi with ⟨h1, l1, m1⟩ | ⟨l1, m1⟩ <;> rcases key j y hj with ⟨h2, l2, m2⟩ | ⟨l2, m2⟩
    · exact hD.1 i j x y h1 h2 hxy
    · omega
    · omega
    · omega
  · rcases key k q hk with ⟨h1, -, -⟩ | ⟨-, h1⟩
    · exact hD.2 k q h1
    · exact hA _ (by omega)
section ZNW
variable {d : Nat} {y : zMt} {mc ms : Nat} {r : Option zV} {σ' : zS} {n0 pc pc' : Nat} {lv lv' : List (Nat × zV)} {st : List zV} {sh : List zK} {R : zRf} {I : zI} {cells slots : Nat}
theorem zg_new {ix ci : Nat} {q : vw_C} {sh' : List zK} {n c2 s2 : Nat} (hd : zD y.2.1 pc (.new ix) 3 pc') (hq : zCl[ci]? = some q) (hw : Cond.classLink y.1.cls ix q.1 ∈ zAll) (hw2 : Cond.instantiable q.1 q.2.2 ∈ zAll ∧ Cond.initialized q.1 ∈ zAll) (hn : sh.length = n) (hF : zFr n R I) (hn2 : n < 100000) (hlv : (lv.all fun q => zok n q.2) = true) (hst : st.all (zok n) = true) (hroom : cells + 1 ≤ mc ∧ slots + q.2.2 ≤ ms) (hsh : sh ++ [.inl ci] = sh') (hc2 : cells + 1 = c2) (hs2 : slots + q.2.2 = s2)
    (kk : zG d y mc ms r σ' n0 pc' lv (.inr (.inr (some n)) :: st) (sh', R, I) c2 s2) : zG d y mc ms r σ' n0 pc lv st (sh, R, I) cells slots := by
  obtain ⟨hd, rfl⟩ := hd
  subst hn hsh hc2 hs2
  intro p l e s m args below meth c A dC dI cA ad0 ad H locs ls cx hE hH hl
  obtain ⟨hK, hP, hD, hS⟩ := hH
  refine va_new (D := (dC, dI)) (C := q.1) (T := q.2.1) (N := q.2.2) (fs := zfs ad ci sh.length R I) cx.1 cx.2.1 cx.2.2.2.2.2.1 (fun w hw2 => List.mem_cons_of_mem _ (zCl_in hq w hw2)) (zTy ci) (zCl_ty ci q hq) cx.2.2.2.2.1 (cx.2.2.2.2.2.1 _ (List.mem_cons_of_mem _ hw)) (cx.2.2.2.2.2.1 _ (List.mem_cons_of_mem _ hw2.1)) (cx.2.2.2.2.2.1 _ (List.mem_cons_of_mem _ hw2.2)) hK hP hD hS cx.2.2.2.2.2.2.2.1 hq (fun j hj => zfs_new hF hq hj) hroom.1 hroom.2 hd (fun qa H1 hP1 hD1 hS1 => ?_)
  have hE1 := zadd_E (ad := ad) (n := sh.length) (N := 1) (q := qa) (by omega)
  have e1 : zW (zadd ad sh.length 1 qa) cA (sh ++ [.inl ci], R, I) = zW ad cA (sh, R, I) ++ [(qa, .inr (ci, zfs ad ci sh.length R I))] := by
    rw [zW_app, zW_ext hF hE1 (fun _ _ => rfl)]
    congr 1
    show [(zadd ad sh.length 1 qa (0 + sh.length), zen (zadd ad sh.length 1 qa) cA R I (0 + sh.length) (.inl ci))] = _
    rw [zen_ext hF hE1, zadd_in (by omega), Nat.zero_add]
    rfl
  have h9 := kk p l e s m args below meth c A dC dI cA ad0 (zadd ad sh.length 1 qa) H1 locs ls cx (hE.trans (by rw [show (sh ++ [(.inl ci : zK)], R, I).1.length = sh.length + 1 by simp]; exact hE1)) ⟨hK, by rw [e1]; exact hP1, by rw [e1]; exact hD1, hS1⟩ (by rw [zLv_fix hE1 hlv]; exact hl)
  rw [List.map_cons, hE1.vals hst] at h9
  have e2 : zcv (zadd ad sh.length 1 qa) (.inr (.inr (some sh.length))) = .ref qa := by
    have := zadd_in (ad := ad) (n := sh.length) (N := 1) (q := qa) (i := 0) (by omega)
    rw [Nat.zero_add] at this
    show va_rf (some _) = _
    rw [this]
    rfl
  rw [e2] at h9
  exact h9
theorem zg_newa {N : Nat} {x : Int32} {sh' : List zK} {n c2 s2 : Nat} (hd : zD y.2.1 pc (.newarray .int) 2 pc') (hw : Cond.arrayClass .int ∈ zAll) (hx : ¬ x < 0) (hN : x.toNatClampNeg = N) (hN2 : N ≤ 1000) (hn : sh.length = n) (hF : zFr n R I) (hn2 : n < 100000) (hlv : (lv.all fun q => zok n q.2) = true) (hst : st.all (zok n) = true) (hroom : cells + 1 ≤ mc ∧ slots + N ≤ ms) (hsh : sh ++ [.inr (0, N)] = sh') (hc2 : cells + 1 = c2) (hs2 : slots + N = s2)
    (kk : zG d y mc ms r σ' n0 pc' lv (.inr (.inr (some n)) :: st) (sh', R, I) c2 s2) : zG d y mc ms r σ' n0 pc lv (.inl x :: st) (sh, R, I) cells slots := by
  obtain ⟨hd, rfl⟩ := hd
  subst hn hsh hc2 hs2
  intro p l e s m args below meth c A dC dI cA ad0 ad H locs ls cx hE hH hl
  obtain ⟨hK, hP, hD, hS⟩ := hH
  refine va_newa (D := (dC, dI)) (atype := .int) (ty := .int) (a0 := (N, .inl (fun _ => 0))) cx.1 cx.2.1 (cx.2.2.2.2.2.1 _ (List.mem_cons_of_mem _ hw)) rfl hK hP hD hS cx.2.2.2.2.2.2.2.1 (fun _ => rfl) hx hN (by show N * 4 ≤ _; omega) hroom.1 hroom.2 hd (fun qa cB H1 hK1 hP1 hD1 hS1 => ?_)
  have f1 := va_nm_int (hK1.2 (zTys cA).length (cB, .int) (by rw [List.getElem?_append_right (Nat.le_refl _), Nat.sub_self]; rfl)).2
  have f2 := va_nm_int (hK.2 0 (cA 0, .int) rfl).2
  have f3 : cB = cA 0 := Option.some.inj (f1.symm.trans f2)
  subst f3
  have hE1 := zadd_E (ad := ad) (n := sh.length) (N := 1) (q := qa) (by omega)
  have e1 : zW (zadd ad sh.length 1 qa) cA (sh ++ [.inr (0, N)], R, I) = zW ad cA (sh, R, I) ++ [(qa, .inl (cA 0, N, .inl (fun _ => 0)))] := by
    rw [zW_app, zW_ext hF hE1 (fun _ _ => rfl)]
    congr 1
    show [(zadd ad sh.length 1 qa (0 + sh.length), zen (zadd ad sh.length 1 qa) cA R I (0 + sh.length) (.inr (0, N)))] = _
    rw [zadd_in (by omega), Nat.zero_add]
    show [(qa + 0, Sum.inl (cA 0, N, Sum.inl (I sh.length)))] = _
    rw [show I sh.length = fun _ => 0 from funext (hF.2 _ (Nat.le_refl _))]
    rfl
  have h9 := kk p l e s m args below meth c A dC dI cA ad0 (zadd ad sh.length 1 qa) H1 locs ls cx (hE.trans (by rw [show (sh ++ [(.inr (0, N) : zK)], R, I).1.length = sh.length + 1 by simp]; exact hE1)) ⟨hK, by rw [e1]; exact hP1, by rw [e1]; exact hD1, hS1⟩ (by rw [zLv_fix hE1 hlv]; exact hl)
  rw [List.map_cons, hE1.vals hst] at h9
  have e2 : zcv (zadd ad sh.length 1 qa) (.inr (.inr (some sh.length))) = .ref qa := by
    have := zadd_in (ad := ad) (n := sh.length) (N := 1) (q := qa) (i := 0) (by omega)
    rw [Nat.zero_add] at this
    show va_rf (some _) = _
    rw [this]
    rfl
  rw [e2] at h9
  exact h9
theorem zg_anewS {N ix : Nat} {x : Int32} {sh' : List zK} {n c2 s2 : Nat} (hd : zD y.2.1 pc (.anewarray ix) 3 pc') (hw : Cond.classLink y.1.cls ix "java/lang/String" ∈ zAll) (hx : ¬ x < 0) (hN : x.toNatClampNeg = N) (hN2 : N ≤ 1000) (hn : sh.length = n) (hF : zFr n R I) (hn2 : n < 100000) (hlv : (lv.all fun q => zok n q.2) = true) (hst : st.all (zok n) = true) (hroom : cells + 1 ≤ mc ∧ slots + N ≤ ms) (hsh : sh ++ [.inr (2, N)] = sh') (hc2 : cells + 1 = c2) (hs2 : slots + N = s2)
    (kk : zG d y mc ms r σ' n0 pc' lv (.inr (.inr (some n)) :: st) (sh', R, I) c2 s2) : zG d y mc ms r σ' n0 pc lv (.inl x :: st) (sh, R, I) cells slots := by
  obtain ⟨hd, rfl⟩ := hd
  subst hn hsh hc2 hs2
  intro p l e s m args below meth c A dC dI cA ad0 ad H locs ls cx hE hH hl
  obtain ⟨hK, hP, hD, hS⟩ := hH
  have hY := cx.2.2.2.2.2.2.2.2.2.1
  refine va_newq (D := (dC, dI)) (C := "java/lang/String") cx.1 cx.2.1 cx.2.2.2.2.1 (cx.2.2.2.2.2.1 _ (List.mem_cons_of_mem _ hw)) hY.2.2.2 hK hP hD hS cx.2.2.2.2.2.2.2.1 hx hN (by omega) hroom.1 hroom.2 hd (fun qa cB H1 hK1 hP1 hD1 hS1 => ?_)
  obtain ⟨k1, m1, -, -, -, f1⟩ := (hK1.2 (zTys cA).length (cB, .object "java/lang/String") (by rw [List.getElem?_append_right (Nat.le_refl _), Nat.sub_self]; rfl)).2
  obtain ⟨k2, m2, -, -, -, f2⟩ := (hK.2 2 (cA 2, .object "java/lang/String") rfl).2
  have f3 : cB = cA 2 := Option.some.inj (f1.symm.trans f2)
  subst f3
  have hE1 := zadd_E (ad := ad) (n := sh.length) (N := 1) (q := qa) (by omega)
  have e1 : zW (zadd ad sh.length 1 qa) cA (sh ++ [.inr (2, N)], R, I) = zW ad cA (sh, R, I) ++ [(qa, .inl (cA 2, N, .inr (.inr (.inr (.inr (fun _ => none))))))] := by
    rw [zW_app, zW_ext hF hE1 (fun _ _ => rfl)]
    congr 1
    show [(zadd ad sh.length 1 qa (0 + sh.length), zen (zadd ad sh.length 1 qa) cA R I (0 + sh.length) (.inr (2, N)))] = _
    rw [zadd_in (by omega), Nat.zero_add]
    show [(qa + 0, Sum.inl (cA 2, N, Sum.inr (Sum.inr (Sum.inr (Sum.inr (fun j => (R sh.length j).map (zadd ad sh.length 1 qa)))))))] = _
    rw [hF.row]
    rfl
  have h9 := kk p l e s m args below meth c A dC dI cA ad0 (zadd ad sh.length 1 qa) H1 locs ls cx (hE.trans (by rw [show (sh ++ [(.inr (2, N) : zK)], R, I).1.length = sh.length + 1 by simp]; exact hE1)) ⟨hK, by rw [e1]; exact hP1, by rw [e1]; exact hD1, hS1⟩ (by rw [zLv_fix hE1 hlv]; exact hl)
  rw [List.map_cons, hE1.vals hst] at h9
  have e2 : zcv (zadd ad sh.length 1 qa) (.inr (.inr (some sh.length))) = .ref qa := by
    have := zadd_in (ad := ad) (n := sh.length) (N := 1) (q := qa) (i := 0) (by omega)
    rw [Nat.zero_add] at this
    show va_rf (some _) = _
    rw [this]
    rfl
  rw [e2] at h9
  exact h9
theorem zg_putR {ix i ci k j : Nat} (hd : zD y.2.1 pc (.putfield ix) 3 pc') (hk : zLkI y.1.cls ix ci k) (hy : y.1.name = "<init>") (hs : sh[i]? = some (.inl ci)) (hr : zrefB (zTy ci k) = true) (kk : zG d y mc ms r σ' n0 pc' lv st (sh, zrn R i k (some j), I) cells slots) : zG d y mc ms r σ' n0 pc lv (.inr (.inr (some j)) :: .inr (.inr (some i)) :: st) (sh, R, I) cells slots := by
  obtain ⟨hd, rfl⟩ := hd
  obtain ⟨q, hq, hkn, hw, hf, hown⟩ := hk
  intro p l e s m args below meth c A dC dI cA ad0 ad H locs ls cx hE hH hl
  have ho := zCl_ow ci q hq k hkn
  obtain ⟨hK, hP, hD, hS⟩ := hH
  have hz : (zW ad cA (sh, R, I))[i]? = some (ad i, .inr (ci, zfs ad ci i R I)) := zW_at (σ := (sh, R, I)) hs
  refine va_putF (D := (dC, dI)) (fs := zfs ad ci i R I) (v := .ref (ad j)) (ty := zTy ci k) (C := q.1) (T := q.2.1) (N := q.2.2) cx.1 cx.2.1 cx.2.2.2.2.2.1 (fun w hw2 => List.mem_cons_of_mem _ (zCl_in hq w hw2)) (zTy ci) (zCl_ty ci q hq) (zCl_nm ci q hq) cx.2.2.2.2.1 hK hP hD hS i hz hq k hkn (cx.2.2.2.2.2.1 _ (List.mem_cons_of_mem _ hw)) (fun x h9 => by rw [ho] at h9; exact h9) hf (cx.2.2.2.2.2.2.2.2.2.2.trans hy) (ho.trans hown) (zCl_ty ci q hq k hkn) (zref_nar hr _) (zref_fit hr _) (by simp [zfs, zN_eq hq, hkn]) hd (fun H1 locs1 hP1 hD1 hS1 => ?_)
  have hkz : k < zN ci := by rw [zN_eq hq]; exact hkn
  rw [zW_setRef hs hkz (zref_int hr)] at hP1 hD1
  exact kk p l e s m args below meth c A dC dI cA ad0 ad H1 locs1 ls cx hE ⟨hK, hP1, hD1, hS1⟩ hl
theorem zg_putR2 {ix i ci k j : Nat} (hd : zD y.2.1 pc (.putfield ix) 3 pc') (hk : zLkP y.1.cls ix ci k) (hs : sh[i]? = some (.inl ci)) (hr : zrefB (zTy ci k) = true) (kk : zG d y mc ms r σ' n0 pc' lv st (sh, zrn R i k (some j), I) cells slots) : zG d y mc ms r σ' n0 pc lv (.inr (.inr (some j)) :: .inr (.inr (some i)) :: st) (sh, R, I) cells slots := by
  obtain ⟨hd, rfl⟩ := hd
  obtain ⟨q, hq, hkn, hw, hf⟩ := hk
  intro p l e s m args below meth c A dC dI cA ad0 ad H locs ls cx hE hH hl
  have ho := zCl_ow ci q hq k hkn
  obtain ⟨hK, hP, hD, hS⟩ := hH
  have hz : (zW ad cA (sh, R, I))[i]? = some (ad i, .inr (ci, zfs ad ci i R I)) := zW_at (σ := (sh, R, I)) hs
  refine va_put (D := (dC, dI)) (fs := zfs ad ci i R I) (v := .ref (ad j)) (ty := zTy ci k) (C := q.1) (T := q.2.1) (N := q.2.2) cx.1 cx.2.1 cx.2.2.2.2.2.1 (fun w hw2 => List.mem_cons_of_mem _ (zCl_in hq w hw2)) (zTy ci) (zCl_ty ci q hq) (zCl_nm ci q hq) cx.2.2.2.2.1 hK hP hD hS i hz hq k hkn (cx.2.2.2.2.2.1 _ (List.mem_cons_of_mem _ hw)) (fun x h9 => by rw [ho] at h9; exact h9) hf (zCl_ty ci q hq k hkn) (zref_nar hr _) (zref_fit hr _) (by simp [zfs, zN_eq hq, hkn]) hd (fun H1 locs1 hP1 hD1 hS1 => ?_)
  have hkz : k < zN ci := by rw [zN_eq hq]; exact hkn
  rw [zW_setRef hs hkz (zref_int hr)] at hP1 hD1
  exact kk p l e s m args below meth c A dC dI cA ad0 ad H1 locs1 ls cx hE ⟨hK, hP1, hD1, hS1⟩ hl
theorem zg_ldcS {ix a : Nat} (hd : zD y.2.1 pc (.ldc ix) 2 pc') (hy : y.1.cls = "TurnedLandModel") (ha : (ix = 24 ∧ a = 100010) ∨ (ix = 26 ∧ a = 100011)) (kk : zG d y mc ms r σ' n0 pc' lv (.inr (.inr (some a)) :: st) (sh, R, I) cells slots) : zG d y mc ms r σ' n0 pc lv st (sh, R, I) cells slots := by
  obtain ⟨hd, rfl⟩ := hd
  intro p l e s m args below meth c A dC dI cA ad0 ad H locs ls cx hE hH hl
  have hX := zX.ext hE cx.2.2.2.2.2.2.2.2.1
  obtain ⟨-, -, -, -, -, hk1, hk2⟩ := hX
  have hown := cx.2.2.2.2.1
  rw [hy] at hown
  have h9 := kk p l e s m args below meth c A dC dI cA ad0 ad H locs ls cx hE hH hl
  rcases ha with ⟨rfl, rfl⟩ | ⟨rfl, rfl⟩
  · exact va_ldcS cx.1 cx.2.1 hown hk1 hd h9
  · exact va_ldcS cx.1 cx.2.1 hown hk2 hd h9
theorem zg_aastX {i n j : Nat} {x : Int32} (hd : zD y.2.1 pc .aastore 1 pc') (hs : sh[i]? = some (.inr (2, n))) (hb : zb x n = true) (hj : ("java/lang/String", j) ∈ zXo) (kk : zG d y mc ms r σ' n0 pc' lv st (sh, zrn R i x.toNatClampNeg (some j), I) cells slots) : zG d y mc ms r σ' n0 pc lv (.inr (.inr (some j)) :: .inl x :: .inr (.inr (some i)) :: st) (sh, R, I) cells slots := by
  obtain ⟨hd, rfl⟩ := hd
  intro p l e s m args below meth c A dC dI cA ad0 ad H locs ls cx hE hH hl
  have hX := zX.ext hE cx.2.2.2.2.2.2.2.2.1
  obtain ⟨hK, hP, hD, hS⟩ := hH
  have hz : (zW ad cA (sh, R, I))[i]? = some (ad i, .inl (cA 2, n, .inr (.inr (.inr (.inr (fun j => (R i j).map ad)))))) := zW_at (σ := (sh, R, I)) hs
  have hrec : ∃ cellV : Cell, H[ad j]? = some cellV ∧ cellV.vm.isStatics = false ∧ s.vm.findClass "java/lang/String" = some cellV.cls := by
    obtain ⟨cell, h1, h2, h3, -⟩ := (hX.2.2.1 _ hj).kept hS.2.1
    exact ⟨cell, h1, h2, h3⟩
  refine vb_astq cx.1 cx.2.1 hK hP hD hS i 2 (C := "java/lang/String") (v := ad j) hz rfl hrec (fun comp c0 h1 h2 => vb_asgS comp c0 h1 h2) (zb_in hb) hd (fun H1 locs1 hP1 hD1 hS1 => ?_)
  rw [zW_setAr (t := 1) hs] at hP1 hD1
  exact kk p l e s m args below meth c A dC dI cA ad0 ad H1 locs1 ls cx hE ⟨hK, hP1, hD1, hS1⟩ hl
theorem zg_obj {ix j : Nat} (hd : zD y.2.1 pc (.invokespecial ix) 3 pc') (hw : Cond.methodLink y.1.cls ix Lib.objectInit ∈ zAll) (hw2 : Cond.instanceMethod Lib.objectInit ∈ zAll ∧ Cond.code Lib.objectInit ⟨#[0xb1]⟩ 1 none ∈ zAll) (hd1 : 1 ≤ d) (hst : (st.map zcat).sum ≤ 8) (kk : zG d y mc ms r σ' n0 pc' lv st (sh, R, I) cells slots) : zG d y mc ms r σ' n0 pc lv (.inr (.inr (some j)) :: st) (sh, R, I) cells slots := by
  obtain ⟨hd, rfl⟩ := hd
  intro p l e s m args below meth c A dC dI cA ad0 ad H locs ls cx hE hH hl
  refine W.objInit cx.1 cx.2.1 cx.2.2.2.2.1 (cx.2.2.2.2.2.1 _ (List.mem_cons_of_mem _ hw)) (cx.2.2.2.2.2.1 _ (List.mem_cons_of_mem _ hw2.1)) (cx.2.2.2.2.2.1 _ (List.mem_cons_of_mem _ hw2.2)) rfl (hl.1.trans cx.2.2.2.1.symm) rfl hd hd1 ?_ (kk p l e s m args below meth c A dC dI cA ad0 ad H locs ls cx hE hH hl)
  have := zcat_sum ad st
  show 2 * _ + _ + 12 ≤ 64 * d
  rw [this]
  show 2 * 0 + _ + 12 ≤ 64 * d
  omega
theorem zg_initN {yc : zMt} {b : Nat} {σ2 : zS} {mc2 ms2 d2 ix c2 s2 : Nat} {host : String} (hd : zD y.2.1 pc (.invokespecial ix) 3 pc') (hc : zCallee yc 0) (hyc : yc.1.name = "<init>" ∧ yc.2.2.2 = none) (hw : (y.1.cls, ix, yc.1, host) ∈ zXn) (hi : Cond.instanceMethod yc.1 ∈ zAll) (hM : zM d2 yc [.inr (.inr (some b))] (sh, R, I) none σ2 mc2 ms2) (hR : d2 + 1 ≤ d ∧ yc.2.2.1 ≤ 40) (hst : (st.map zcat).sum ≤ 8) (hf : cells + mc2 ≤ mc ∧ slots + ms2 ≤ ms) (hlv : (lv.all fun q => zok sh.length q.2) = true) (hsk : st.all (zok sh.length) = true) (hc2 : cells + mc2 = c2) (hs2 : slots + ms2 = s2)
    (k : zG d y mc ms r σ' n0 pc' lv st σ2 c2 s2) : zG d y mc ms r σ' n0 pc lv (.inr (.inr (some b)) :: st) (sh, R, I) cells slots := by
  obtain ⟨hd, rfl⟩ := hd
  subst hc2 hs2
  obtain ⟨⟨n1, bc, ml, rt⟩, hrt⟩ : ∃ q : zMt, q = yc := ⟨yc, rfl⟩
  subst hrt
  obtain ⟨hyn, hyr⟩ := hyc
  have hyr : rt = none := hyr
  subst hyr
  intro p l e s m args below meth c A dC dI cA ad0 ad H locs ls cx hE hH hl
  have hAA := zAA cx.2.2.2.2.2.2.2.1 hH
  have hY := cx.2.2.2.2.2.2.2.2.2.1
  refine zg_run cx hE hH hl hAA (r2 := none) (σ2 := σ2) (mc2 := mc2) (ms2 := ms2) (st := st) (va_runIN (b := ad b) (As := []) (rest := st.map (zcv ad)) ⟨cx.1, cx.2.1, cx.2.2.2.1, cx.2.2.2.2.1, cx.2.2.2.2.2.1⟩ (hM l dC dI cA ad H.size) ⟨va_cnB 0 cx.2.2.2.2.2.1 (zGood (zWs_all hc.1)) rfl rfl rfl (hY.1 _ hw) (cx.2.2.2.2.2.1 _ (List.mem_cons_of_mem _ hc.2.1)) hc.2.2 ⟨hR.1, ?_⟩, hyn, cx.2.2.2.2.2.1 _ (List.mem_cons_of_mem _ hi)⟩ ⟨zblind, fun U hU hW => ⟨rfl, zpre cx hE hH U hU hW⟩⟩ rfl rfl hl.1 ?_ (lv_room (by rw [zcat_sum]; exact hst)) hd hf) (fun ad' h => ⟨h.vals hsk, zLv_fix h hlv⟩) k
  · have h2 := hR.2
    have h1 := hR.1
    show 8 + (ml + 11) + 64 * d2 ≤ 64 * d
    have h2 : ml ≤ 40 := h2
    omega
  · rfl
theorem zg_initL {yc : zMt} {b : Nat} {σ2 : zS} {mc2 ms2 d2 ix c2 s2 : Nat} (hd : zD y.2.1 pc (.invokespecial ix) 3 pc') (hc : zCallee yc 0) (hyc : yc.1.name = "<init>" ∧ yc.2.2.2 = none) (hw : Cond.methodLink y.1.cls ix yc.1 ∈ zAll) (hi : Cond.instanceMethod yc.1 ∈ zAll) (hM : zM d2 yc [.inr (.inr (some b))] (sh, R, I) none σ2 mc2 ms2) (hR : d2 + 1 ≤ d ∧ yc.2.2.1 ≤ 40) (hst : (st.map zcat).sum ≤ 8) (hf : cells + mc2 ≤ mc ∧ slots + ms2 ≤ ms) (hlv : (lv.all fun q => zok sh.length q.2) = true) (hsk : st.all (zok sh.length) = true) (hc2 : cells + mc2 = c2) (hs2 : slots + ms2 = s2)
    (k : zG d y mc ms r σ' n0 pc' lv st σ2 c2 s2) : zG d y mc ms r σ' n0 pc lv (.inr (.inr (some b)) :: st) (sh, R, I) cells slots := by
  obtain ⟨hd, rfl⟩ := hd
  subst hc2 hs2
  obtain ⟨⟨n1, bc, ml, rt⟩, hrt⟩ : ∃ q : zMt, q = yc := ⟨yc, rfl⟩
  subst hrt
  obtain ⟨hyn, hyr⟩ := hyc
  have hyr : rt = none := hyr
  subst hyr
  intro p l e s m args below meth c A dC dI cA ad0 ad H locs ls cx hE hH hl
  have hAA := zAA cx.2.2.2.2.2.2.2.1 hH
  refine zg_run cx hE hH hl hAA (r2 := none) (σ2 := σ2) (mc2 := mc2) (ms2 := ms2) (st := st) (va_runI (b := ad b) (As := []) (rest := st.map (zcv ad)) ⟨cx.1, cx.2.1, cx.2.2.2.1, cx.2.2.2.2.1, cx.2.2.2.2.2.1⟩ (hM l dC dI cA ad H.size) (cwI 0 cx.2.2.2.2.2.1 (zGood (zWs_all hc.1)) rfl rfl rfl (cx.2.2.2.2.2.1 _ (List.mem_cons_of_mem _ hc.2.1)) (cx.2.2.2.2.2.1 _ (List.mem_cons_of_mem _ hw)) (cx.2.2.2.2.2.1 _ (List.mem_cons_of_mem _ hi)) hyn hc.2.2 ⟨hR.1, ?_⟩) ⟨zblind, fun U hU hW => ⟨rfl, zpre cx hE hH U hU hW⟩⟩ rfl rfl hl.1 ?_ (lv_room (by rw [zcat_sum]; exact hst)) hd hf) (fun ad' h => ⟨h.vals hsk, zLv_fix h hlv⟩) k
  · have h2 := hR.2
    have h1 := hR.1
    show 8 + (ml + 11) + 64 * d2 ≤ 64 * d
    have h2 : ml ≤ 40 := h2
    omega
  · rfl
theorem zg_mna {ix N K : Nat} {x w : Int32} {sh' : List zK} {n c2 s2 : Nat} (hd : zD y.2.1 pc (.multianewarray ix 2) 4 pc') (hw : Cond.classLink y.1.cls ix "[[I" ∈ zAll) (hw2 : Cond.arrayClass .int ∈ zAll) (hx : ¬ x < 0 ∧ x.toNatClampNeg = N ∧ ¬ w < 0 ∧ w.toNatClampNeg = K) (hN2 : N ≤ 1000 ∧ K ≤ 1000) (hn : sh.length = n) (hF : zFr n R I) (hn2 : n + N < 100000) (hlv : (lv.all fun q => zok n q.2) = true) (hst : st.all (zok n) = true) (hroom : cells + (1 + N) ≤ mc ∧ slots + (N + N * K) ≤ ms) (hsh : sh ++ .inr (1, N) :: List.replicate N (.inr (0, K)) = sh') (hc2 : cells + (1 + N) = c2) (hs2 : slots + (N + N * K) = s2)
    (kk : zG d y mc ms r σ' n0 pc' lv (.inr (.inr (some n)) :: st) (sh', zrr R n N, I) c2 s2) : zG d y mc ms r σ' n0 pc lv (.inl w :: .inl x :: st) (sh, R, I) cells slots := by
  obtain ⟨hd, rfl⟩ := hd
  subst hn hsh hc2 hs2
  obtain ⟨hx1, rfl, hw1, rfl⟩ := hx
  intro p l e s m args below meth c A dC dI cA ad0 ad H locs ls cx hE hH hl
  obtain ⟨hK, hP, hD, hS⟩ := hH
  have hY := cx.2.2.2.2.2.2.2.2.2.1
  have es : (FieldType.array FieldType.int).toString = "[I" := by decide +kernel
  have es2 : "[" ++ (FieldType.array FieldType.int).toString = "[[I" := by decide +kernel
  intro T hT X
  subst hT
  obtain ⟨vm₁, cB, comp, -, hfA, hfC, -, -, X1, step⟩ := X.multianewarray2F cx.1 (own := y.1.cls) (index := ix) (ty := .int) cx.2.2.2.2.1 (by rw [es2]; exact cx.2.2.2.2.2.1 _ (List.mem_cons_of_mem _ hw)) hY.2.2.1 (cx.2.2.2.2.2.1 _ (List.mem_cons_of_mem _ hw2)) (g := F0 m pc ls (.int w :: .int x :: st.map (zcv ad))) rfl (by rw [cx.2.1]; exact hd) (n := x) (k := w) (rest := st.map (zcv ad)) rfl hx1 hw1 (by omega) (by show w.toNatClampNeg * 4 ≤ _; omega) (by omega) rfl rfl hroom.1 hroom.2
  have f3 : cB = cA 1 := by
    have g2 : s.vm.findClass ("[" ++ (FieldType.array FieldType.int).toString) = some (cA 1) := (hK.2 1 (cA 1, .array .int) rfl).2
    exact Option.some.inj (hfA.symm.trans g2)
  have f4 : comp = cA 0 := by
    have g2 := va_nm_int (hK.2 0 (cA 0, .int) rfl).2
    rw [es] at hfC
    exact Option.some.inj (hfC.symm.trans g2)
  subst f3 f4
  obtain ⟨b1, b2, -, -⟩ := Jvm.Free.Multi.fill_facts (T.setVm vm₁) (cA 1) (cA 0) x.toNatClampNeg w.toNatClampNeg (defaultValue .int) x.toNatClampNeg
  have bo := fun (a : Addr) (ha : a < T.heap.size) => Jvm.Free.Multi.fill_old (T.setVm vm₁) (cA 1) (cA 0) x.toNatClampNeg w.toNatClampNeg (defaultValue .int) (a := a) ha x.toNatClampNeg
  have bi := fun (j : Nat) (hj : j < x.toNatClampNeg) => Jvm.Free.Multi.fill_inner (T.setVm vm₁) (cA 1) (cA 0) x.toNatClampNeg w.toNatClampNeg (defaultValue .int) x.toNatClampNeg j hj
  generalize hTF : Jvm.Free.Multi.fill (T.setVm vm₁) (cA 1) (cA 0) x.toNatClampNeg w.toNatClampNeg (defaultValue .int) x.toNatClampNeg = TF at X1 step b1 b2 bo bi
  have b1 : TF.heap.size = T.heap.size + 1 + x.toNatClampNeg := b1
  have b2 : TF.heap[T.heap.size]? = some (Jvm.Free.Multi.outerC (cA 1) x.toNatClampNeg T.heap.size x.toNatClampNeg) := b2
  have bo : ∀ a : Nat, a < T.heap.size → TF.heap[a]? = T.heap[a]? := bo
  have bi : ∀ j, j < x.toNatClampNeg → TF.heap[T.heap.size + 1 + j]? = some (Jvm.Free.Multi.innerC (cA 0) w.toNatClampNeg (defaultValue .int)) := bi
  have hlen : (sh ++ .inr (1, x.toNatClampNeg) :: List.replicate x.toNatClampNeg (.inr (0, w.toNatClampNeg) : zK)).length = sh.length + (1 + x.toNatClampNeg) := by simp; omega
  have hE1 := zadd_E (ad := ad) (n := sh.length) (N := 1 + x.toNatClampNeg) (q := T.heap.size) (by omega)
  have hn1 : ∀ i, i < 1 + x.toNatClampNeg → zadd ad sh.length (1 + x.toNatClampNeg) T.heap.size (i + sh.length) = T.heap.size + i := fun i hi => zadd_in hi
  generalize zadd ad sh.length (1 + x.toNatClampNeg) T.heap.size = ad' at hE1 hn1
  have hLn : (.inr (1, x.toNatClampNeg) :: List.replicate x.toNatClampNeg (.inr (0, w.toNatClampNeg) : zK)).length = 1 + x.toNatClampNeg := by simp; omega
  have e1 : zW ad' cA (sh ++ .inr (1, x.toNatClampNeg) :: List.replicate x.toNatClampNeg (.inr (0, w.toNatClampNeg)), zrr R sh.length x.toNatClampNeg, I) = zW ad cA (sh, R, I) ++ (.inr (1, x.toNatClampNeg) :: List.replicate x.toNatClampNeg (.inr (0, w.toNatClampNeg) : zK)).mapIdx (fun i k => (ad' (i + sh.length), zen ad' cA (zrr R sh.length x.toNatClampNeg) I (i + sh.length) k)) := by
    rw [zW_app, zW_ext hF hE1 (fun a ha => by funext b; unfold zrr; rw [if_neg (by omega)])]
  have hnew : ∀ i q, ((.inr (1, x.toNatClampNeg) :: List.replicate x.toNatClampNeg (.inr (0, w.toNatClampNeg) : zK)).mapIdx (fun i k => (ad' (i + sh.length), zen ad' cA (zrr R sh.length x.toNatClampNeg) I (i + sh.length) k)))[i]? = some q → q.1 = T.heap.size + i ∧ va_at (dC, dI) zCl q TF.heap := by
    intro i q hq
    rw [List.getElem?_mapIdx] at hq
    obtain ⟨k, hk, rfl⟩ := Option.map_eq_some_iff.mp hq
    have hi : i < 1 + x.toNatClampNeg := by rw [← hLn]; exact (List.getElem?_eq_some_iff.mp hk).1
    refine ⟨hn1 i hi, ?_⟩
    rw [hn1 i hi]
    cases i with
    | zero =>
      cases hk
      show TF.heap[T.heap.size + 0]? = some (vp_cell (cA 1) (x.toNatClampNeg, .inr (.inr (.inr (.inr (fun j => (zrr R sh.length x.toNatClampNeg (0 + sh.length) j).map ad'))))))
      rw [vp_cell_q, Nat.add_zero, b2, zouter]
      congr 1
      apply arrV_cg
      intro j hj
      have e9 : zrr R sh.length x.toNatClampNeg (0 + sh.length) j = some (sh.length + 1 + j) := by
        unfold zrr
        rw [if_pos (by omega), if_pos hj]
      rw [e9]
      show _ = Value.ref (ad' (sh.length + 1 + j))
      rw [show sh.length + 1 + j = (1 + j) + sh.length by omega, hn1 (1 + j) (by omega), Nat.add_assoc]
    | succ i =>
      rw [List.getElem?_cons_succ] at hk
      have hi2 : i < x.toNatClampNeg := by omega
      rw [List.getElem?_replicate, if_pos hi2] at hk
      cases hk
      show TF.heap[T.heap.size + (i + 1)]? = some (vp_cell (cA 0) (w.toNatClampNeg, .inl (I (i + 1 + sh.length))))
      rw [vp_cell_i, show I (i + 1 + sh.length) = fun _ => 0 from funext (hF.2 _ (by omega)), show T.heap.size + (i + 1) = T.heap.size + 1 + i by omega, bi i hi2, ← arrV_new]
      rfl
  have hP1 : va_P (dC, dI) zCl (zW ad' cA (sh ++ .inr (1, x.toNatClampNeg) :: List.replicate x.toNatClampNeg (.inr (0, w.toNatClampNeg)), zrr R sh.length x.toNatClampNeg, I)) TF.heap := by
    rw [e1]
    exact (hP.kept (fun k q hk => bo q.1 ((hP k q hk).lt))).app (fun k q hk => (hnew k q hk).2)
  have hD1 : va_D A (zW ad' cA (sh ++ .inr (1, x.toNatClampNeg) :: List.replicate x.toNatClampNeg (.inr (0, w.toNatClampNeg)), zrr R sh.length x.toNatClampNeg, I)) := by
    rw [e1]
    exact va_D_grow hD hP (fun k q hk => (hnew k q hk).1) (fun a ha => cx.2.2.2.2.2.2.2.1 a (Nat.le_trans hS.1 ha))
  have h9 := kk p l e s m args below meth c A dC dI cA ad0 ad' TF.heap locs ls cx (hE.trans (by show zE sh.length (sh ++ _).length ad ad'; rw [hlen]; exact hE1)) ⟨hK, hP1, hD1, ⟨Nat.le_trans hS.1 (by omega), fun q h1 h2 => (bo q (Nat.lt_of_lt_of_le h1 hS.1)).trans (hS.2.1 q h1 h2), hS.2.2⟩⟩ (by rw [zLv_fix hE1 hlv]; exact hl)
  rw [List.map_cons, hE1.vals hst] at h9
  have e2 : zcv ad' (.inr (.inr (some sh.length))) = .ref T.heap.size := by
    have := hn1 0 (by omega)
    rw [Nat.zero_add] at this
    show va_rf (some _) = _
    rw [this]
    rfl
  rw [e2] at h9
  obtain ⟨t, a1, a2⟩ := h9 TF rfl (X1.more (by omega) (by omega))
  exact ⟨t, step t a1, a2⟩
end ZNW
