/-! THE START: what the Statement gives -/
def qL0 : List Cond := flatC (Jvm.Cond.and given_1 narrow_1)
def qTm (o n d : String) : Term := .static o n d
def qSt : Term := .string "TurnedLandModel" 24
def qSt2 : Term := .string "TurnedLandModel" 26
section QS
variable {s : State} {b : Nat}
theorem q_tab {A : Nat → Prop} (hts : ∀ w ∈ lw_tbl, w.before #[Value.ref b] s = true) (hs : ∀ w ∈ qL0, w.before #[Value.ref b] s = true) (hA : ∀ a : Nat, a < s.heap.size → ¬ A a) {o n d : String} {ty : FieldType} {N : Nat} {f : List Int32} (hN : N < 2 ^ 31) (h1 : Cond.arrayOf (.static o n d) ty ∈ qL0) (h2 : Cond.eq (.length (.static o n d)) (.int (Int32.ofNat N)) ∈ qL0) (h3 : ∀ j, j < N → Cond.eq (.elem (.static o n d) (.int (Int32.ofNat j))) (.int (zLst f j)) ∈ qL0) (h4 : Cond.laysStatic o n d ∈ lw_tbl) (h5 : Cond.initialized o ∈ lw_tbl) : ∃ t : Nat, va_Z o n d (.ref t) A s s.heap ∧ va_T ty t N (fun j => .int (zLst f j)) A s s.heap := by
  obtain ⟨t, ht, hT⟩ := va_Tof (f := fun j => .int (zLst f j)) (A := A) hN (hs _ h1) (va_eqt (hs _ h2)) (fun j hj => va_eqt (hs _ (h3 j hj))) hA
  exact ⟨t, va_Zref (hts _ h4) (hts _ h5) ht hA, hT⟩
theorem q_str {A : Nat → Prop} (hts : ∀ w ∈ lw_tbl, w.before #[Value.ref b] s = true) (hs : ∀ w ∈ qL0, w.before #[Value.ref b] s = true) (hA : ∀ a : Nat, a < s.heap.size → ¬ A a) {k N : Nat} {tx : String} {f : List Int32} (hN : N < 2 ^ 31) (h0 : Cond.exactly (.string "TurnedLandModel" k) "java/lang/String" ∈ qL0) (hc : Cond.eq (.field (.string "TurnedLandModel" k) "java/lang/String" "coder" "B") (.int 0) ∈ qL0) (h1 : Cond.arrayOf (.field (.string "TurnedLandModel" k) "java/lang/String" "value" "[B") .byte ∈ qL0) (h2 : Cond.eq (.length (.field (.string "TurnedLandModel" k) "java/lang/String" "value" "[B")) (.int (Int32.ofNat N)) ∈ qL0) (h3 : ∀ j, j < N → Cond.eq (.elem (.field (.string "TurnedLandModel" k) "java/lang/String" "value" "[B") (.int (Int32.ofNat j))) (.int (zLst f j)) ∈ qL0) (h4 : Cond.stringRef "TurnedLandModel" k tx ∈ lw_tbl) : ∃ a t : Nat, va_O "java/lang/String" a A s s.heap ∧ va_OF "java/lang/String" "coder" "B" (.int 0) a A s s.heap ∧ va_OF "java/lang/String" "value" "[B" (.ref t) a A s s.heap ∧ va_T .byte t N (fun j => .int (zLst f j)) A s s.heap ∧ vk_R "TurnedLandModel" k tx a s := by
  obtain ⟨a, c, cA, kA, q1, q2, q3, q4, q5, q6, -⟩ := Cond.exactly_spec (args := #[Value.ref b]) (first := s) (o := none) (s := s) (idx := []) (t := .string "TurnedLandModel" k) (cls := "java/lang/String") (hs _ h0)
  obtain ⟨t, ht, hT⟩ := va_Tof (f := fun j => .int (zLst f j)) (A := A) hN (hs _ h1) (va_eqt (hs _ h2)) (fun j hj => va_eqt (hs _ (h3 j hj))) hA
  exact ⟨a, t, ⟨cA, q3, q5, by rw [q6]; exact q2, hA a (Array.getElem?_eq_some_iff.mp q3).1⟩, vk_OFof q1 (va_eqt (hs _ hc)) hA, vk_OFof q1 ht hA, hT, vk_R.of (hts _ h4) q1⟩
def qad (l : List (Nat × Nat)) : Nat → Nat := fun i => match l.find? (fun q => q.1 == i) with
  | some q => q.2
  | none => 0
set_option maxRecDepth 100000 in
set_option maxHeartbeats 4000000 in
theorem q_X (hts : ∀ w ∈ lw_tbl, w.before #[Value.ref b] s = true) (hs : ∀ w ∈ qL0, w.before #[Value.ref b] s = true) : ∃ ad0 : Nat → Nat, zX ad0 (qA s) s s.heap := by
  have hA : ∀ a : Nat, a < s.heap.size → ¬ qA s a := fun a h => Nat.not_le.mpr h
  obtain ⟨t0, z0, T0⟩ := q_tab (A := qA s) (f := [99, 100, 104, 106]) hts hs hA (o := "TurnedLand$Reader") (n := "HOURS_NAMES") (d := "[C") (ty := .char) (N := 4) (by decide) (by decide +kernel) (by decide +kernel) (by decide +kernel) (by decide +kernel) (by decide +kernel)
  obtain ⟨t1, z1, T1⟩ := q_tab (A := qA s) (f := [119, 97, 115]) hts hs hA (o := "TurnedLand$Reader") (n := "PRICE_NAMES") (d := "[C") (ty := .char) (N := 3) (by decide) (by decide +kernel) (by decide +kernel) (by decide +kernel) (by decide +kernel) (by decide +kernel)
  obtain ⟨t2, z2, T2⟩ := q_tab (A := qA s) (f := [-1, 0, 1, 1, 0, 0, 2]) hts hs hA (o := "TurnedLand") (n := "KIND_ABOVE") (d := "[I") (ty := .int) (N := 7) (by decide) (by decide +kernel) (by decide +kernel) (by decide +kernel) (by decide +kernel) (by decide +kernel)
  obtain ⟨t3, z3, T3⟩ := q_tab (A := qA s) (f := [10, 11, 12, 13, 20, 0, 0, 21, 0, 30, 0, 0, 41, 0, 40, 0, 0, 0, 50, 0, 60, 61, 0, 0, 70, 0, 0, 71]) hts hs hA (o := "TurnedLand$Voices") (n := "BODIES") (d := "[I") (ty := .int) (N := 28) (by decide) (by decide +kernel) (by decide +kernel) (by decide +kernel) (by decide +kernel) (by decide +kernel)
  have z4 : va_Z "java/lang/String" "COMPACT_STRINGS" "Z" (.int 1) (qA s) s s.heap := va_Zof (hts (.laysStatic "java/lang/String" "COMPACT_STRINGS" "Z") (by decide +kernel)) (hts (.initialized "java/lang/String") (by decide +kernel)) (va_eqi (hs (.eq (.static "java/lang/String" "COMPACT_STRINGS" "Z") (.int 1)) (by decide +kernel))) hA
  obtain ⟨a0, v0, o0, c0, f0, U0, k0⟩ := q_str (A := qA s) (f := [99, 100, 104, 106]) hts hs hA (k := 24) (tx := "cdhj") (N := 4) (by decide) (by decide +kernel) (by decide +kernel) (by decide +kernel) (by decide +kernel) (by decide +kernel) (by decide +kernel)
  obtain ⟨a1, v1, o1, c1, f1, U1, k1⟩ := q_str (A := qA s) (f := [119, 97, 115]) hts hs hA (k := 26) (tx := "was") (N := 3) (by decide) (by decide +kernel) (by decide +kernel) (by decide +kernel) (by decide +kernel) (by decide +kernel) (by decide +kernel)
  have zq : va_Zq "jdk/internal/util/Preconditions" "SIOOBE_FORMATTER" "Ljava/util/function/BiFunction;" (qA s) s s.heap := va_Zqof (hts (.laysStatic "jdk/internal/util/Preconditions" "SIOOBE_FORMATTER" "Ljava/util/function/BiFunction;") (by decide +kernel)) (hts (.initialized "jdk/internal/util/Preconditions") (by decide +kernel)) (hs (.isRef (.static "jdk/internal/util/Preconditions" "SIOOBE_FORMATTER" "Ljava/util/function/BiFunction;")) (by decide +kernel)) hA
  obtain ⟨fx, fxa, hfx, hz⟩ : ∃ (fx : Option Nat) (fxa : Nat), (fx = none ∨ fx = some 100030) ∧ va_Z "jdk/internal/util/Preconditions" "SIOOBE_FORMATTER" "Ljava/util/function/BiFunction;" (va_rf (fx.map (fun _ => fxa))) (qA s) s s.heap := by
    rcases zq with h | ⟨t, h⟩
    · exact ⟨none, 0, Or.inl rfl, h⟩
    · exact ⟨some 100030, t, Or.inr rfl, h⟩
  refine ⟨qad [(100000, t0), (100001, t1), (100002, t2), (100003, t3), (100010, a0), (100011, a1), (100020, v0), (100021, v1), (100030, fxa)], ?_, ?_, ?_, ?_, ⟨fx, hfx, ?_⟩, k0, k1⟩
  · intro q hq
    simp only [zXst, List.mem_cons, List.not_mem_nil, or_false] at hq
    rcases hq with rfl | rfl | rfl | rfl | rfl
    · exact z0
    · exact z1
    · exact z2
    · exact z3
    · exact z4
  · intro q hq
    simp only [zXt, List.mem_cons, List.not_mem_nil, or_false] at hq
    rcases hq with rfl | rfl | rfl | rfl | rfl | rfl
    · exact T0
    · exact T1
    · exact T2
    · exact T3
    · exact U0
    · exact U1
  · intro q hq
    simp only [zXo, List.mem_cons, List.not_mem_nil, or_false] at hq
    rcases hq with rfl | rfl
    · exact o0
    · exact o1
  · intro q hq
    simp only [zXf, List.mem_cons, List.not_mem_nil, or_false] at hq
    rcases hq with rfl | rfl | rfl | rfl
    · exact f0
    · exact c0
    · exact f1
    · exact c1
  · rcases hfx with rfl | rfl
    · exact hz
    · exact hz
theorem q_Y (hts : ∀ w ∈ lw_tbl, w.before #[Value.ref b] s = true) : zY s := by
  refine ⟨fun q hq => va_Nw.of rfl (hts _ ?_), fun q hq => va_Nw.of rfl (hts _ ?_), (show (Cond.arrayOver (.array .int)).before #[Value.ref b] s = true from hts _ (by decide +kernel)), va_AO.of (hts _ (by decide +kernel))⟩
  · have h : ∀ q ∈ zXn, Cond.methodLinkNest q.1 q.2.1 q.2.2.1 q.2.2.2 ∈ lw_tbl := by decide +kernel
    exact h q hq
  · have h : ∀ q ∈ zXnf, Cond.fieldLinkNest q.1 q.2.1 q.2.2.1 q.2.2.2.1 q.2.2.2.2.1 q.2.2.2.2.2 ∈ lw_tbl := by decide +kernel
    exact h q hq
theorem q_all (hts : ∀ w ∈ lw_tbl, w.before #[Value.ref b] s = true) : ∀ w ∈ zAll, w.before #[Value.ref b] s = true := fun w hw => hts w (List.mem_filter.mp hw).1
theorem q_inst : ∀ (k : Nat) (q : vw_C), zCl[k]? = some q → Cond.instantiable q.1 q.2.2 ∈ lw_tbl
  | 0, q, h => by cases h; decide +kernel
  | 1, q, h => by cases h; decide +kernel
  | 2, q, h => by cases h; decide +kernel
  | 3, q, h => by cases h; decide +kernel
  | 4, q, h => by cases h; decide +kernel
  | 5, q, h => by cases h; decide +kernel
  | 6, q, h => by cases h; decide +kernel
  | 7, q, h => by cases h; decide +kernel
  | 8, q, h => by cases h; decide +kernel
  | 9, q, h => by cases h; decide +kernel
  | 10, q, h => by cases h; decide +kernel
  | 11, q, h => by cases h; decide +kernel
  | 12, q, h => by cases h; decide +kernel
  | n + 13, q, h => by simp [zCl] at h
theorem q_K (hts : ∀ w ∈ lw_tbl, w.before #[Value.ref b] s = true) : ∃ (dC : Nat → ClassId) (dI : Nat → Nat → Nat) (cA : Nat → ClassId), va_K (dC, dI) zCl (zTys cA) s := by
  have h0 : ∀ k : Nat, ∃ x : ClassId × (Nat → Nat), ∀ q, zCl[k]? = some q → u_Kn s q.1 q.2.1 q.2.2 x.1 x.2 := by
    intro k
    cases hq : zCl[k]? with
    | none => exact ⟨(0, fun _ => 0), fun q h => by cases h⟩
    | some q =>
      obtain ⟨cC, iS, hk⟩ := u_known (C := q.1) (T := q.2.1) (N := q.2.2) (q_all hts) (zCl_in hq) (hts _ (q_inst k q hq))
      exact ⟨(cC, iS), fun q2 h => by cases h; exact hk⟩
  obtain ⟨f, hf⟩ := Classical.axiomOfChoice h0
  obtain ⟨c1, k1, m1, a1, a2, a3⟩ := Cond.arrayClass_spec (hts (.arrayClass .int) (by decide +kernel))
  obtain ⟨m2, c2, k2, b1, b2, b3, b4, b5⟩ := arrayOverA_spec (hts (.arrayOver (.array .int)) (by decide +kernel))
  obtain ⟨m3, c3, k3, d1, d2, d3, d4, d5⟩ := Cond.arrayOver_spec (hts (.arrayOver (.object "java/lang/String")) (by decide +kernel))
  refine ⟨fun k => (f k).1, fun k => (f k).2, fun k => if k = 0 then c1 else if k = 1 then c2 else c3, fun k q hq => hf k q hq, fun k q hq => ?_⟩
  match k, hq with
  | 0, hq =>
    cases hq
    exact ⟨fun N z => ⟨(fun k h => by cases h), k1, a2, m1, a3⟩, a1⟩
  | 1, hq =>
    cases hq
    exact ⟨fun N z => ⟨(fun k h => by cases h), k2, b3, m2, b4⟩, b5⟩
  | 2, hq =>
    cases hq
    exact ⟨fun N z => ⟨(fun k h => by cases h), k3, d3, m3, d4⟩, k3, m3, d3, d4, d1, d5⟩
  | k + 3, hq => simp [zTys] at hq
end QS
