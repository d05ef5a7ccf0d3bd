/-! THE LAW: its two worlds side by side -/
def qA (s : State) : Nat → Prop := fun q => s.heap.size ≤ q
def qC (p : Program) (s : State) (m : MethodId) (c : Code) (b L : Nat) (xs : Nat → Int32) : Prop :=
  p.tables.exec = Jvm.exec ∧ c.code = code ∧ c.maxLocals = 4 ∧ s.vm.findClass "TurnedLandLaw" = some m.cls ∧ (∀ w ∈ zAll, w.before #[Value.ref b] s = true) ∧ va_X b L xs s s.heap ∧ b < s.heap.size ∧ zY s
def qH (dC : Nat → ClassId) (dI : Nat → Nat → Nat) (cA : Nat → ClassId) (ad1 : Nat → Nat) (σ1 : zS) (ad2 : Nat → Nat) (σ2 : zS) (s : State) (H : Heap) (locs : List Loc) : Prop :=
  va_K (dC, dI) zCl (zTys cA) s ∧ (va_P (dC, dI) zCl (zW ad1 cA σ1) H ∧ va_D (qA s) (zW ad1 cA σ1) ∧ zX ad1 (qA s) s s.heap ∧ σ1.1.length ≤ 100000) ∧ (va_P (dC, dI) zCl (zW ad2 cA σ2) H ∧ va_D (qA s) (zW ad2 cA σ2) ∧ zX ad2 (qA s) s s.heap ∧ σ2.1.length ≤ 100000) ∧ (∀ i j, i < σ1.1.length → j < σ2.1.length → ad1 i ≠ ad2 j) ∧ va_S (qA s) s.heap H locs
theorem qH.swap {dC : Nat → ClassId} {dI : Nat → Nat → Nat} {cA : Nat → ClassId} {ad1 ad2 : Nat → Nat} {σ1 σ2 : zS} {s : State} {H : Heap} {locs : List Loc} (h : qH dC dI cA ad1 σ1 ad2 σ2 s H locs) : qH dC dI cA ad2 σ2 ad1 σ1 s H locs :=
  ⟨h.1, h.2.2.1, h.2.1, fun i j hi hj e => h.2.2.2.1 j i hj hi e.symm, h.2.2.2.2⟩
theorem zW_adr {ad : Nat → Nat} {cA : Nat → ClassId} {σ : zS} {k : Nat} {q : Nat × va_E} (h : (zW ad cA σ)[k]? = some q) : k < σ.1.length ∧ q.1 = ad k := by
  have hk : k < σ.1.length := by rw [← zW_len (ad := ad) (cA := cA)]; exact (List.getElem?_eq_some_iff.mp h).1
  simp only [zW, List.getElem?_mapIdx] at h
  obtain ⟨x, -, rfl⟩ := Option.map_eq_some_iff.mp h
  exact ⟨hk, rfl⟩
theorem zW_adr2 {ad : Nat → Nat} {cA : Nat → ClassId} {σ : zS} {k : Nat} (hk : k < σ.1.length) : ∃ e, (zW ad cA σ)[k]? = some (ad k, e) := by
  obtain ⟨x, hx⟩ : ∃ x, σ.1[k]? = some x := ⟨σ.1[k], List.getElem?_eq_getElem hk⟩
  exact ⟨_, zW_at hx⟩
theorem qGood {ws : List Cond} (h : ∀ w ∈ ws, w ∈ zAll) : GoodIn zAll ws := fun w hw => ⟨h w hw, zAll_good (h w hw)⟩
section QR
variable {p : Program} {l : Launch} {e : Env} {s : State} {m : MethodId} {below : List Frame} {meth : Method} {c : Code} {b L : Nat} {xs : Nat → Int32} {dC : Nat → ClassId} {dI : Nat → Nat → Nat} {cA : Nat → ClassId} {ad1 ad2 : Nat → Nat} {σ1 σ2 : zS} {H : Heap} {locs : List Loc} {cells slots : Nat} {Q : State → Prop} {ls : Array Slot} {pc pc' : Nat} {st : List Value}
theorem q_AA (h : qH dC dI cA ad1 σ1 ad2 σ2 s H locs) : ∀ q, va_A (zW ad1 cA σ1) H.size q → qA s q := by
  intro q hq
  rcases hq with ⟨k, e, hq⟩ | hq
  · exact h.2.1.2.1.2 k _ hq
  · exact Nat.le_trans h.2.2.2.2.1 hq
theorem q_pre (cx : qC p s m c b L xs) (h : qH dC dI cA ad1 σ1 ad2 σ2 s H locs) (U : State) (hU : U.heap = H) (hW : s.WarmedH U.vm) : zPre dC dI cA ad1 σ1 H.size U := by
  have hAA := q_AA h
  obtain ⟨hK, ⟨hP, hD, hX, hle⟩, -, -, hS⟩ := h
  refine ⟨by rw [hU], hle, by rw [hU]; exact hP, hK.moved hW.alike, hD.weaken (fun _ _ _ _ => trivial), ?_, cx.2.2.2.2.2.2.2.warm hW⟩
  have h1 : zX ad1 (qA s) s H := hX.kept (fun q h1 h2 => hS.2.1 q h1 h2)
  rw [hU]
  exact (h1.narrow hAA).warm hW
theorem q_run {r2 : Option zV} {σ1' : zS} {mc2 ms2 : Nat} {st0 : List Value} {a : Array Value} (h : qH dC dI cA ad1 σ1 ad2 σ2 s H locs)
    (hr : va_Run p l e room_1 s m #[Value.ref b] below meth c H locs cells slots mc2 ms2 (F0 m pc ls st0) st (zQ dC dI cA ad1 σ1.1.length r2 σ1' (va_A (zW ad1 cA σ1) H.size) a) (va_A (zW ad1 cA σ1) H.size))
    (kk : ∀ (ad1' : Nat → Nat) (H1 : Heap) (locs1 : List Loc), zE σ1.1.length σ1'.1.length ad1 ad1' → qH dC dI cA ad1' σ1' ad2 σ2 s H1 locs1 → W p l e room_1 s m #[Value.ref b] below meth c H1 locs1 (cells + mc2) (slots + ms2) Q (F0 m (pc + 3) ls ((r2.map (zcv ad1')).toList ++ st))) :
    W p l e room_1 s m #[Value.ref b] below meth c H locs cells slots Q (F0 m pc ls st0) := by
  have hAA := q_AA h
  intro T hT X
  obtain ⟨v, st₀, t, T', Lc, h0, X', hL, e1, e2, ⟨⟨ad1', hE', hv, hP', hK', hD'⟩, hz, hk⟩, stp⟩ := hr T hT X
  obtain ⟨hK, ⟨hP, hD, hX, hle⟩, ⟨hP2, hD2, hX2, hle2⟩, hap, hS⟩ := h
  cases hv
  rw [h0] at hz hk
  have hnA : ∀ j, j < σ2.1.length → ad2 j < H.size ∧ ¬ va_A (zW ad1 cA σ1) H.size (ad2 j) := by
    intro j hj
    obtain ⟨x, hx⟩ := zW_adr2 (ad := ad2) (cA := cA) hj
    have hlt : ad2 j < H.size := (hP2 j _ hx).lt
    refine ⟨hlt, fun z => ?_⟩
    rcases z with ⟨k, x2, hk2⟩ | z
    · obtain ⟨g1, g2⟩ := zW_adr hk2
      exact hap k j g1 hj g2.symm
    · omega
  obtain ⟨t2, a1, b1⟩ := kk ad1' T'.heap (locs ++ Lc) hE' ⟨hK, ⟨by rw [e1]; exact hP', hD'.weaken (fun _ q _ h => hAA q.1 h), zX.ext hE' hX, hE'.2.1⟩, ⟨hP2.kept (fun k q hq => by
      obtain ⟨g1, g2⟩ := zW_adr hq
      rw [e1, g2]
      exact hk _ (hnA k g1).1 (hnA k g1).2), hD2, hX2, hle2⟩, fun i j hi hj e => by
        obtain ⟨x, hx⟩ := zW_adr2 (ad := ad1') (cA := cA) hi
        have := hD'.2 i _ hx
        have g := hnA j hj
        rw [← e] at g
        exact g.2 this, ⟨Nat.le_trans hS.1 (by rw [e1]; exact hz), fun q h1 h2 => by
          rw [e1, hk q (Nat.lt_of_lt_of_le h1 hS.1) (fun z => h2 (hAA q z))]
          exact hS.2.1 q h1 h2, fun q hq => by
          rcases List.mem_append.mp hq with h | h
          · exact hS.2.2 q h
          · exact hAA _ (hL q h)⟩⟩ T' rfl X'
  exact ⟨t2, stp t2 a1, b1⟩
/-- a call of the world at the left -/
theorem q_call {yc : zMt} {av : List zV} {sh : List zK} {R : zRf} {I I2 : zI} {ci : Nat} {q : vw_C} {x : Int32} {d2 ix n : Nat} (cx : qC p s m c b L xs) (h : qH dC dI cA ad1 (sh, R, I) ad2 σ2 s H locs) (hl : ls.size = 4) (hd : zD code pc (.invokevirtual ix) 3 pc') (hc : zCallee yc n) (hw : Cond.methodLink "TurnedLandLaw" ix yc.1 ∈ zAll) (hi : Cond.instanceMethod yc.1 ∈ zAll) (hse : Cond.selects yc.1.cls yc.1 yc.1 ∈ zAll) (hb : sh[0]? = some (.inl ci)) (hq : zCl[ci]? = some q) (hqc : yc.1.cls = q.1) (hM : zM d2 yc (.inr (.inr (some 0)) :: av) (sh, R, I) (some (.inl x)) (sh, R, I2) 0 0) (hn : av.length = n) (hR : d2 + 1 ≤ 1300 ∧ yc.2.2.1 ≤ 40) (hst : (st.map fun v => v.category).sum ≤ 8) (hroom : cells ≤ 600000 ∧ slots ≤ 7302250)
    (kk : ∀ (H1 : Heap) (locs1 : List Loc), qH dC dI cA ad1 (sh, R, I2) ad2 σ2 s H1 locs1 → W p l e room_1 s m #[Value.ref b] below meth c H1 locs1 cells slots Q (F0 m pc' ls (.int x :: st))) :
    W p l e room_1 s m #[Value.ref b] below meth c H locs cells slots Q (F0 m pc ls ((av.map (zcv ad1)).reverse ++ .ref (ad1 0) :: st)) := by
  obtain ⟨hd, rfl⟩ := hd
  refine q_run (r2 := some (.inl x)) (σ1' := (sh, R, I2)) (mc2 := 0) (ms2 := 0) (st := st) h (va_runV (C := yc.1.cls) (b := ad1 0) (As := av.map (zcv ad1)) (rest := st) ⟨cx.1, cx.2.1, cx.2.2.1, cx.2.2.2.1, cx.2.2.2.2.1⟩ (hM l dC dI cA ad1 H.size) (cwV n cx.2.2.2.2.1 (qGood (fun w hw2 => ?_)) rfl rfl rfl ⟨rfl, hc.2.2⟩ ⟨?_, ?_⟩) ⟨zblind, ?_, fun U hU hW => ⟨rfl, q_pre cx h U hU hW⟩⟩ rfl (by simp [hn]) hl rfl (lv_room hst) hd ?_) (fun ad' H1 locs1 hE h1 => ?_)
  · rcases List.mem_append.mp hw2 with h | h
    · simp only [List.mem_cons, List.not_mem_nil, or_false] at h
      rcases h with rfl | rfl | rfl | rfl
      · exact hw
      · exact hi
      · exact hse
      · exact hc.2.1
    · exact zWs_all hc.1 w h
  · have := hR.1
    show d2 + 1 ≤ 2048
    omega
  · have h1 := hR.1
    have h2 := hR.2
    show 8 + (yc.2.2.1 + 11) + 64 * d2 ≤ 84000
    omega
  · rw [hqc]
    have hz : (zW ad1 cA (sh, R, I))[0]? = some (ad1 0, .inr (ci, zfs ad1 ci 0 R I)) := zW_at (σ := (sh, R, I)) hb
    exact va_recv h.1 h.2.1.1 hq hz
  · exact hroom
  · have := zE.eq hE
    subst this
    exact kk H1 locs1 h1
theorem q_call2 {yc : zMt} {av : List zV} {sh : List zK} {R : zRf} {I I2 : zI} {ci : Nat} {q : vw_C} {x : Int32} {d2 ix n : Nat} (cx : qC p s m c b L xs) (h : qH dC dI cA ad1 σ1 ad2 (sh, R, I) s H locs) (hl : ls.size = 4) (hd : zD code pc (.invokevirtual ix) 3 pc') (hc : zCallee yc n) (hw : Cond.methodLink "TurnedLandLaw" ix yc.1 ∈ zAll) (hi : Cond.instanceMethod yc.1 ∈ zAll) (hse : Cond.selects yc.1.cls yc.1 yc.1 ∈ zAll) (hb : sh[0]? = some (.inl ci)) (hq : zCl[ci]? = some q) (hqc : yc.1.cls = q.1) (hM : zM d2 yc (.inr (.inr (some 0)) :: av) (sh, R, I) (some (.inl x)) (sh, R, I2) 0 0) (hn : av.length = n) (hR : d2 + 1 ≤ 1300 ∧ yc.2.2.1 ≤ 40) (hst : (st.map fun v => v.category).sum ≤ 8) (hroom : cells ≤ 600000 ∧ slots ≤ 7302250)
    (kk : ∀ (H1 : Heap) (locs1 : List Loc), qH dC dI cA ad1 σ1 ad2 (sh, R, I2) s H1 locs1 → W p l e room_1 s m #[Value.ref b] below meth c H1 locs1 cells slots Q (F0 m pc' ls (.int x :: st))) :
    W p l e room_1 s m #[Value.ref b] below meth c H locs cells slots Q (F0 m pc ls ((av.map (zcv ad2)).reverse ++ .ref (ad2 0) :: st)) :=
  q_call cx h.swap hl hd hc hw hi hse hb hq hqc hM hn hR hst hroom (fun H1 locs1 h1 => kk H1 locs1 h1.swap)
/-- an int of the script -/
theorem q_ld {a1 a2 i k : Nat} {kI : Int} (cx : qC p s m c b L xs) (hS : va_S (qA s) s.heap H locs) (hl : lv_has ls 4 [(3, .int (nI i)), (0, .ref b), (1, .ref a1), (2, .ref a2)]) (d0 : zD code pc (.aload_n 0) 1 (pc + 1)) (d1 : zD code (pc + 1) (.iload_n 3) 1 (pc + 2)) (d2 : zD code (pc + 2) (.iconst kI) 1 (pc + 3)) (d3 : zD code (pc + 3) .iadd 1 (pc + 4)) (d4 : zD code (pc + 4) .iaload 1 (pc + 5)) (hk : Int32.ofInt kI = nI k) (hi : i + k < L) (hL : L ≤ 384)
    (kk : W p l e room_1 s m #[Value.ref b] below meth c H locs cells slots Q (F0 m (pc + 5) ls (.int (xs (i + k)) :: st))) : W p l e room_1 s m #[Value.ref b] below meth c H locs cells slots Q (F0 m pc ls st) := by
  refine lv_aload_n cx.1 cx.2.1 d0.1 rfl (lv_at hl 1 rfl) ?_
  refine lv_iload_n cx.1 cx.2.1 d1.1 rfl (lv_at hl 0 rfl) ?_
  refine lv_iconst cx.1 cx.2.1 d2.1 hk ?_
  refine lv_iadd cx.1 cx.2.1 d3.1 ?_
  rw [nI_add]
  refine va_sld cx.1 cx.2.1 cx.2.2.2.2.2.1 cx.2.2.2.2.2.2.1 (Nat.not_le.mpr cx.2.2.2.2.2.2.1) hS (zb_in (zb_nI hi (by omega))) d4.1 ?_
  rw [nI_clamp (by omega)]
  exact kk
/-- an object is made in the (still empty) world at the right -/
theorem q_new {ix ci : Nat} {q : vw_C} {R : zRf} {I : zI} (cx : qC p s m c b L xs) (h : qH dC dI cA ad1 σ1 ad2 ([], R, I) s H locs) (hF : zFr 0 R I) (hd : zD code pc (.new ix) 3 pc') (hq : zCl[ci]? = some q) (hw : Cond.classLink "TurnedLandLaw" ix q.1 ∈ zAll) (hw2 : Cond.instantiable q.1 q.2.2 ∈ zAll ∧ Cond.initialized q.1 ∈ zAll) (hroom : cells + 1 ≤ 600000 ∧ slots + q.2.2 ≤ 7302250)
    (kk : ∀ (ad2' : Nat → Nat) (H1 : Heap), qH dC dI cA ad1 σ1 ad2' ([.inl ci], R, I) s H1 locs → W p l e room_1 s m #[Value.ref b] below meth c H1 locs (cells + 1) (slots + q.2.2) Q (F0 m pc' ls (.ref (ad2' 0) :: st))) :
    W p l e room_1 s m #[Value.ref b] below meth c H locs cells slots Q (F0 m pc ls st) := by
  obtain ⟨hd, rfl⟩ := hd
  obtain ⟨hK, ⟨hP, hD, hX, hle⟩, ⟨hP2, hD2, hX2, hle2⟩, hap, hS⟩ := h
  refine va_new (D := (dC, dI)) (C := q.1) (T := q.2.1) (N := q.2.2) (fs := zfs ad2 ci 0 R I) cx.1 cx.2.1 cx.2.2.2.2.1 (fun w hw2 => zCl_in hq w hw2) (zTy ci) (zCl_ty ci q hq) cx.2.2.2.1 (cx.2.2.2.2.1 _ hw) (cx.2.2.2.2.1 _ hw2.1) (cx.2.2.2.2.1 _ hw2.2) hK hP hD hS (fun q h => h) hq (fun j hj => zfs_new hF hq hj) hroom.1 hroom.2 hd (fun qa H1 hP1 hD1 hS1 => ?_)
  have hE1 := zadd_E (ad := ad2) (n := 0) (N := 1) (q := qa) (by omega)
  have e0 : zadd ad2 0 1 qa 0 = qa := by
    have := zadd_in (ad := ad2) (n := 0) (N := 1) (q := qa) (i := 0) (by omega)
    exact this
  have e1 : zW (zadd ad2 0 1 qa) cA ([.inl ci], R, I) = [(qa, .inr (ci, zfs ad2 ci 0 R I))] := by
    show [(zadd ad2 0 1 qa 0, zen (zadd ad2 0 1 qa) cA R I 0 (.inl ci))] = _
    rw [zen_ext hF hE1, e0]
    rfl
  have hlast : (zW ad1 cA σ1 ++ [(qa, .inr (ci, zfs ad2 ci 0 R I))])[(zW ad1 cA σ1).length]? = some (qa, .inr (ci, zfs ad2 ci 0 R I)) := by
    rw [List.getElem?_append_right (Nat.le_refl _), Nat.sub_self]
    rfl
  have hlt : ∀ k x, (zW ad1 cA σ1)[k]? = some x → (zW ad1 cA σ1 ++ [(qa, .inr (ci, zfs ad2 ci 0 R I))])[k]? = some x := fun k x hx => by
    rw [List.getElem?_append_left (List.getElem?_eq_some_iff.mp hx).1]
    exact hx
  have h9 := kk (zadd ad2 0 1 qa) H1 ⟨hK, ⟨fun k x hx => hP1 k x (hlt k x hx), hD, hX, hle⟩, ⟨?_, ?_, zX.ext hE1 hX2, by simp⟩, ?_, hS1⟩
  · rw [e0] at h9
    exact h9
  · rw [e1]
    intro k x hx
    have hk : k < 1 := (List.getElem?_eq_some_iff.mp hx).1
    rw [show k = 0 by omega] at hx
    cases hx
    exact hP1 _ _ hlast
  · rw [e1]
    refine ⟨fun i j x y hi hj _ => ?_, fun k x hx => ?_⟩
    · have h1 : i < 1 := (List.getElem?_eq_some_iff.mp hi).1
      have h2 : j < 1 := (List.getElem?_eq_some_iff.mp hj).1
      omega
    · have hk : k < 1 := (List.getElem?_eq_some_iff.mp hx).1
      rw [show k = 0 by omega] at hx
      cases hx
      exact hD1.2 _ _ hlast
  · intro i j hi hj he
    have hj : j < 1 := hj
    rw [show j = 0 by omega, e0] at he
    obtain ⟨x, hx⟩ := zW_adr2 (ad := ad1) (cA := cA) hi
    have := hD1.1 i (zW ad1 cA σ1).length _ _ (hlt i _ hx) hlast he
    rw [zW_len] at this
    omega
/-- a constructor's call in the world at the left -/
theorem q_init {yc : zMt} {sh sh' : List zK} {R R' : zRf} {I I' : zI} {mc2 ms2 d2 ix : Nat} (cx : qC p s m c b L xs) (h : qH dC dI cA ad1 (sh, R, I) ad2 σ2 s H locs) (hl : ls.size = 4) (hd : zD code pc (.invokespecial ix) 3 pc') (hc : zCallee yc 0) (hyc : yc.1.name = "<init>" ∧ yc.2.2.2 = none) (hw : Cond.methodLink "TurnedLandLaw" ix yc.1 ∈ zAll) (hi : Cond.instanceMethod yc.1 ∈ zAll) (hM : zM d2 yc [.inr (.inr (some 0))] (sh, R, I) none (sh', R', I') mc2 ms2) (hR : d2 + 1 ≤ 1300 ∧ yc.2.2.1 ≤ 40) (hst : (st.map fun v => v.category).sum ≤ 8) (hroom : cells + mc2 ≤ 600000 ∧ slots + ms2 ≤ 7302250)
    (kk : ∀ (ad1' : Nat → Nat) (H1 : Heap) (locs1 : List Loc), zE sh.length sh'.length ad1 ad1' → qH dC dI cA ad1' (sh', R', I') ad2 σ2 s H1 locs1 → W p l e room_1 s m #[Value.ref b] below meth c H1 locs1 (cells + mc2) (slots + ms2) Q (F0 m pc' ls st)) :
    W p l e room_1 s m #[Value.ref b] below meth c H locs cells slots Q (F0 m pc ls (.ref (ad1 0) :: st)) := by
  obtain ⟨hd, rfl⟩ := hd
  obtain ⟨⟨n1, bc, ml, rt⟩, hrt⟩ : ∃ q : zMt, q = yc := ⟨yc, rfl⟩
  subst hrt
  obtain ⟨hyn, hyr⟩ := hyc
  have hyr : rt = none := hyr
  subst hyr
  refine q_run (r2 := none) (σ1' := (sh', R', I')) (mc2 := mc2) (ms2 := ms2) (st := st) h (va_runI (b := ad1 0) (As := []) (rest := st) ⟨cx.1, cx.2.1, cx.2.2.1, cx.2.2.2.1, cx.2.2.2.2.1⟩ (hM l dC dI cA ad1 H.size) (cwI 0 cx.2.2.2.2.1 (qGood (zWs_all hc.1)) rfl rfl rfl (cx.2.2.2.2.1 _ hc.2.1) (cx.2.2.2.2.1 _ hw) (cx.2.2.2.2.1 _ hi) hyn hc.2.2 ⟨?_, ?_⟩) ⟨zblind, fun U hU hW => ⟨rfl, q_pre cx h U hU hW⟩⟩ rfl rfl hl rfl (lv_room hst) hd hroom) (fun ad' H1 locs1 hE h1 => kk ad' H1 locs1 hE h1)
  · have := hR.1
    show d2 + 1 ≤ 2048
    omega
  · have h1 := hR.1
    have h2 : ml ≤ 40 := hR.2
    show 8 + (ml + 11) + 64 * d2 ≤ 84000
    omega
end QR
/-- only the slots that there are count -/
def zcgB (sh : List zK) (R R' : zRf) (I I' : zI) : Bool := (List.range sh.length).all fun i => match sh[i]? with
  | some (.inl ci) => (List.range (zN ci)).all fun k => if zIntT (zTy ci k) then I i k == I' i k else R i k == R' i k
  | some (.inr (0, n)) => (List.range n).all fun j => I i j == I' i j
  | some (.inr (_, n)) => (List.range n).all fun j => R i j == R' i j
  | none => true
theorem zP_cg {D : va_G} {cl : List vw_C} {ad : Nat → Nat} {cA : Nat → ClassId} {sh : List zK} {R R' : zRf} {I I' : zI} {H : Heap} (hc : zcgB sh R R' I I' = true) (h : va_P D cl (zW ad cA (sh, R, I)) H) : va_P D cl (zW ad cA (sh, R', I')) H := by
  intro k q hq
  obtain ⟨hk, -⟩ := zW_adr hq
  have hk : k < sh.length := hk
  obtain ⟨x, hx⟩ : ∃ x, sh[k]? = some x := ⟨sh[k], List.getElem?_eq_getElem hk⟩
  have h1 := h k _ (zW_at (σ := (sh, R, I)) hx)
  have h2 := List.all_eq_true.mp hc k (List.mem_range.mpr hk)
  rw [hx] at h2
  have hq2 := (zW_at (ad := ad) (cA := cA) (σ := (sh, R', I')) hx).symm.trans hq
  cases hq2
  rcases x with ci | ⟨t, n⟩
  · have e : zfs ad ci k R' I' = zfs ad ci k R I := by
      unfold zfs
      apply List.map_congr_left
      intro y hy
      have h3 := List.all_eq_true.mp h2 y hy
      unfold zfv
      by_cases hz : zIntT (zTy ci y) = true
      · rw [if_pos hz] at h3
        rw [if_pos hz, if_pos hz, eq_of_beq h3]
      · rw [if_neg hz] at h3
        rw [if_neg hz, if_neg hz, eq_of_beq h3]
    show va_at D cl (ad k, .inr (ci, zfs ad ci k R' I')) H
    rw [e]
    exact h1
  · cases t with
    | zero =>
      have e : vp_cell (cA 0) (n, .inl (I' k)) = vp_cell (cA 0) (n, .inl (I k)) := by
        rw [vp_cell_i, vp_cell_i]
        apply arrV_cg
        intro j hj
        rw [eq_of_beq (List.all_eq_true.mp h2 j (List.mem_range.mpr hj))]
      show H[ad k]? = some (vp_cell (cA 0) (n, .inl (I' k)))
      rw [e]
      exact h1
    | succ t =>
      have e : vp_cell (cA (t + 1)) (n, .inr (.inr (.inr (.inr (fun j => (R' k j).map ad))))) = vp_cell (cA (t + 1)) (n, .inr (.inr (.inr (.inr (fun j => (R k j).map ad))))) := by
        rw [vp_cell_q, vp_cell_q]
        apply arrV_cg
        intro j hj
        have h3 : (R k j == R' k j) = true := List.all_eq_true.mp h2 j (List.mem_range.mpr hj)
        rw [eq_of_beq h3]
      show H[ad k]? = some (vp_cell (cA (t + 1)) _)
      rw [e]
      exact h1
theorem qH_cg {dC : Nat → ClassId} {dI : Nat → Nat → Nat} {cA : Nat → ClassId} {ad1 ad2 : Nat → Nat} {sh : List zK} {R R' : zRf} {I I' : zI} {σ2 : zS} {s : State} {H : Heap} {locs : List Loc} (hc : zcgB sh R R' I I' = true) (h : qH dC dI cA ad1 (sh, R, I) ad2 σ2 s H locs) : qH dC dI cA ad1 (sh, R', I') ad2 σ2 s H locs := by
  obtain ⟨hK, ⟨hP, hD, hX, hle⟩, h2, hap, hS⟩ := h
  refine ⟨hK, ⟨zP_cg hc hP, ⟨fun i j x y hi hj he => ?_, fun k x hx => ?_⟩, hX, hle⟩, h2, hap, hS⟩
  · obtain ⟨g1, g2⟩ := zW_adr hi
    obtain ⟨g3, g4⟩ := zW_adr hj
    obtain ⟨x1, f1⟩ := zW_adr2 (ad := ad1) (cA := cA) (σ := (sh, R, I)) g1
    obtain ⟨x2, f2⟩ := zW_adr2 (ad := ad1) (cA := cA) (σ := (sh, R, I)) g3
    exact hD.1 i j _ _ f1 f2 (by show ad1 i = ad1 j; rw [← g2, ← g4]; exact he)
  · obtain ⟨g1, g2⟩ := zW_adr hx
    obtain ⟨x1, f1⟩ := zW_adr2 (ad := ad1) (cA := cA) (σ := (sh, R, I)) g1
    rw [g2]
    exact hD.2 k _ f1
def qI0 : zI := fun a b => if (a = 6 ∨ a = 52) ∧ b < 32 then -1 else if (a = 1 ∨ a = 47) ∧ b = 10 then 1 else 0
def qJ0 : zI := fun a b => if a = 1 ∧ b = 8 then 1 else 0
set_option maxRecDepth 100000 in
theorem q_sC : zL_11 = zCs := by decide +kernel
set_option maxRecDepth 100000 in
theorem q_sM : zL_12 = zMs := by decide +kernel
set_option maxRecDepth 100000 in
theorem q_cC : zcgB zCs (zR_11 0 (fun _ _ => none)) zCr (zI_11 0 (fun _ _ => 0)) qI0 = true := by decide +kernel
set_option maxRecDepth 100000 in
theorem q_cM : zcgB zMs (zR_12 0 (fun _ _ => none)) zMr (zI_12 0 (fun _ _ => 0)) qJ0 = true := by decide +kernel
theorem q_F0 : zFr 0 (fun _ _ => none) (fun _ _ => 0) := ⟨fun a b j h => (by cases h), fun _ _ _ => rfl⟩
