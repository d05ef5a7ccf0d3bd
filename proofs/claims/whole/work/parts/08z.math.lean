/-! Math.max, Math.min -/
def zmax (x y : Int32) : Int32 := if x < y then y else x
def zmin (x y : Int32) : Int32 := if y < x then y else x
theorem zmax_w : Cond.static Lib.Math.max.name ∈ zAll ∧ Cond.initialized "java/lang/Math" ∈ zAll ∧ Cond.code Lib.Math.max.name Lib.Math.max.code 2 (some .int) ∈ zAll := ⟨zw_671, zw_16, zw_672⟩
theorem zmin_w : Cond.static Lib.Math.min.name ∈ zAll ∧ Cond.initialized "java/lang/Math" ∈ zAll ∧ Cond.code Lib.Math.min.name Lib.Math.min.code 2 (some .int) ∈ zAll := ⟨zw_668, zw_16, zw_669⟩
section ZX
variable {d : Nat} {y : zMt} {mc ms : Nat} {r : Option zV} {σ' : zS} {n0 pc pc' : Nat} {lv : List (Nat × zV)} {st : List zV} {σ : zS}
theorem zg_zmax {a b : Int32} {ix : Nat} (hd : zD y.2.1 pc (.invokestatic ix) 3 pc') (hw : Cond.methodLink y.1.cls ix Lib.Math.max.name ∈ zAll) (hw2 : Cond.static Lib.Math.max.name ∈ zAll ∧ Cond.initialized "java/lang/Math" ∈ zAll ∧ Cond.code Lib.Math.max.name Lib.Math.max.code 2 (some .int) ∈ zAll) (hd1 : 1 ≤ d) (hst : (st.map zcat).sum ≤ 8) (k : zG d y mc ms r σ' n0 pc' lv (.inl (zmax a b) :: st) σ 0 0) : zG d y mc ms r σ' n0 pc lv (.inl b :: .inl a :: st) σ 0 0 := by
  obtain ⟨hd, rfl⟩ := hd
  intro p l e s m args below meth c A dC dI cA ad0 ad H locs ls cx hE hH hl
  refine va_mmax cx.1 cx.2.1 (cx.2.2.2.1.trans hl.1.symm) cx.2.2.2.2.1 (cx.2.2.2.2.2.1 _ (List.mem_cons_of_mem _ hw)) (cx.2.2.2.2.2.1 _ (List.mem_cons_of_mem _ hw2.1)) (cx.2.2.2.2.2.1 _ (List.mem_cons_of_mem _ hw2.2.1)) (cx.2.2.2.2.2.1 _ (List.mem_cons_of_mem _ hw2.2.2)) hd1 ?_ (Nat.zero_le _) (Nat.zero_le _) hd (k p l e s m args below meth c A dC dI cA ad0 ad H locs ls cx hE hH hl)
  rw [zcat_sum]
  show _ ≤ 64 * d
  omega
theorem zg_zmin {a b : Int32} {ix : Nat} (hd : zD y.2.1 pc (.invokestatic ix) 3 pc') (hw : Cond.methodLink y.1.cls ix Lib.Math.min.name ∈ zAll) (hw2 : Cond.static Lib.Math.min.name ∈ zAll ∧ Cond.initialized "java/lang/Math" ∈ zAll ∧ Cond.code Lib.Math.min.name Lib.Math.min.code 2 (some .int) ∈ zAll) (hd1 : 1 ≤ d) (hst : (st.map zcat).sum ≤ 8) (k : zG d y mc ms r σ' n0 pc' lv (.inl (zmin a b) :: st) σ 0 0) : zG d y mc ms r σ' n0 pc lv (.inl b :: .inl a :: st) σ 0 0 := by
  obtain ⟨hd, rfl⟩ := hd
  intro p l e s m args below meth c A dC dI cA ad0 ad H locs ls cx hE hH hl
  refine va_mmin cx.1 cx.2.1 (cx.2.2.2.1.trans hl.1.symm) cx.2.2.2.2.1 (cx.2.2.2.2.2.1 _ (List.mem_cons_of_mem _ hw)) (cx.2.2.2.2.2.1 _ (List.mem_cons_of_mem _ hw2.1)) (cx.2.2.2.2.2.1 _ (List.mem_cons_of_mem _ hw2.2.1)) (cx.2.2.2.2.2.1 _ (List.mem_cons_of_mem _ hw2.2.2)) hd1 ?_ (Nat.zero_le _) (Nat.zero_le _) hd (k p l e s m args below meth c A dC dI cA ad0 ad H locs ls cx hE hH hl)
  rw [zcat_sum]
  show _ ≤ 64 * d
  omega
end ZX
