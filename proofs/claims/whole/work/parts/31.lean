/-! voices -/
/-- where a voice's body is found, and which it is -/
def zfk (k v : Nat) : Nat := (([[0, 0, 0, 0], [1, 0, 0, 1], [1, 2, 0, 1], [3, 0, 3, 1], [0, 0, 4, 0], [5, 5, 0, 0], [6, 2, 0, 6]] : List (List Nat)).getD k []).getD v 0
def zfb (k v : Nat) : Nat := (([[10, 11, 12, 13], [20, 11, 12, 21], [20, 30, 12, 21], [41, 11, 40, 21], [10, 11, 50, 13], [60, 61, 12, 13], [70, 30, 12, 71]] : List (List Nat)).getD k []).getD v 0
def zup1 (k : Nat) : Int32 := zLst [-1, 0, 1, 1, 0, 0, 2] k
theorem c_say_step (rc : zI → Int32 → Int32 → Int32 → Int32 → Option (Int32 × zI)) (I : zI) (x d : Int32) {k v : Nat} (hk : k < 7) (hv : v < 4) : fc_Voices_sayB rc I (nI k) (nI v) x d = (fc_Voices_begin I (nI (zfb k v))).bind fun r8 => if (40 : Int32) ≤ d then some (0, r8) else (fc_Voices_work rc r8 (nI (zfb k v)) (nI (zfk k v)) x (d + 1)).bind fun r11 => some (r11.1, r11.2) := by
  rcases (show k = 0 ∨ k = 1 ∨ k = 2 ∨ k = 3 ∨ k = 4 ∨ k = 5 ∨ k = 6 by omega) with rfl | rfl | rfl | rfl | rfl | rfl | rfl <;> rcases (show v = 0 ∨ v = 1 ∨ v = 2 ∨ v = 3 by omega) with rfl | rfl | rfl | rfl <;> rfl
theorem m_say_step (rc : zI → Int32 → Int32 → Int32 → Option (Int32 × zI)) (J : zI) (x : Int32) {k v : Nat} (hk : k < 7) (hv : v < 4) : fm_bodyFromB rc J (nI k) (nI v) x = if J 0 27 = 0 then (fm_body rc J (nI (zfk k v)) (nI v) x).bind fun r5 => some (r5.1, r5.2) else some (0, J) := by
  rcases (show k = 0 ∨ k = 1 ∨ k = 2 ∨ k = 3 ∨ k = 4 ∨ k = 5 ∨ k = 6 by omega) with rfl | rfl | rfl | rfl | rfl | rfl | rfl <;> rcases (show v = 0 ∨ v = 1 ∨ v = 2 ∨ v = 3 by omega) with rfl | rfl | rfl | rfl <;> rfl
def vR (w n K : Nat) (I J : zI) : Prop := rR I J ∧ I 184 3 = nI K ∧ I 184 4 = nI w ∧ I 184 5 = nI n ∧ J 0 26 = nI w ∧ I 184 2 = J 0 27 ∧ J 1 (66 + 12 * w + 2) = nI n ∧ J 1 (66 + 12 * w) = nI K
theorem vR_begin {w n K : Nat} {I J : zI} (h : vR w n K I J) (b : Int32) : ∃ I' J', fc_Voices_begin I b = some I' ∧ fm_began J b = some J' ∧ vR w n K I' J' ∧ I' 184 2 = I 184 2 := by
  obtain ⟨hR, h3, h4, h5, h6, h7, h8, h9⟩ := h
  obtain ⟨x1, x2, x3, x4, m, x5, x6, x7, x8⟩ := id hR.2
  unfold fc_Voices_begin fm_began
  rw [x6, x7]
  by_cases hm : m < 30
  · rw [if_pos (show nI m < (30 : Int32) from nI_lt (b := 30) hm (by omega)), if_neg (show ¬ (30 : Int32) ≤ nI m from nI_ge (b := 30) hm (by omega)), zl_b (by omega), show decide (m < 30) = true from decide_eq_true hm, zl_cl m (by omega), nI_1]
    simp only [z_guard, if_true]
    refine ⟨_, _, rfl, rfl, ⟨⟨rW_cg hR.1 (fun c k hc => by unfold zwrel at hc; (unfold zup; repeat (first | rw [if_neg (by omega)] | rw [if_pos (by omega)]))) (fun k hk => by (unfold zup; repeat (first | rw [if_neg (by omega)] | rw [if_pos (by omega)]))), fun s hs => ?_, fun k hk => ?_, ?_, ?_, m + 1, by omega, by (unfold zup; repeat (first | rw [if_neg (by omega)] | rw [if_pos (by omega)])), by (unfold zup; repeat (first | rw [if_neg (by omega)] | rw [if_pos (by omega)])), fun k hk => ?_⟩, by (unfold zup; repeat (first | rw [if_neg (by omega)] | rw [if_pos (by omega)])); exact h3, by (unfold zup; repeat (first | rw [if_neg (by omega)] | rw [if_pos (by omega)])); exact h4, by (unfold zup; repeat (first | rw [if_neg (by omega)] | rw [if_pos (by omega)])); exact h5, by (unfold zup; repeat (first | rw [if_neg (by omega)] | rw [if_pos (by omega)])); exact h6, by (unfold zup; repeat (first | rw [if_neg (by omega)] | rw [if_pos (by omega)])); exact h7, by (unfold zup; repeat (first | rw [if_neg (by omega)] | rw [if_pos (by omega)])); exact h8, by (unfold zup; repeat (first | rw [if_neg (by omega)] | rw [if_pos (by omega)])); exact h9⟩, by (unfold zup; repeat (first | rw [if_neg (by omega)] | rw [if_pos (by omega)]))⟩
    · obtain ⟨a1, a2, a3, a4, a5⟩ := x1 s hs
      exact ⟨by (unfold zup; repeat (first | rw [if_neg (by omega)] | rw [if_pos (by omega)])); exact a1, by (unfold zup; repeat (first | rw [if_neg (by omega)] | rw [if_pos (by omega)])); exact a2, by (unfold zup; repeat (first | rw [if_neg (by omega)] | rw [if_pos (by omega)])); exact a3, by (unfold zup; repeat (first | rw [if_neg (by omega)] | rw [if_pos (by omega)])); exact a4, fun k hk => by (unfold zup; repeat (first | rw [if_neg (by omega)] | rw [if_pos (by omega)])); exact a5 k hk⟩
    · (unfold zup; repeat (first | rw [if_neg (by omega)] | rw [if_pos (by omega)])); exact x2 k hk
    · (unfold zup; repeat (first | rw [if_neg (by omega)] | rw [if_pos (by omega)])); exact x3
    · rcases x4 with x4 | x4
      · left; (unfold zup; repeat (first | rw [if_neg (by omega)] | rw [if_pos (by omega)])); exact x4
      · right
        exact rW_cg x4 (fun c k hc => by unfold zwrel at hc; show zup (zup I 185 m b) 184 1 (nI (m + 1)) (c + 46) k = I (c + 46) k; (unfold zup; repeat (first | rw [if_neg (by omega)] | rw [if_pos (by omega)]))) (fun k hk => by (unfold zup; repeat (first | rw [if_neg (by omega)] | rw [if_pos (by omega)])))
    · by_cases hkm : k = m
      · subst hkm; (unfold zup; repeat (first | rw [if_neg (by omega)] | rw [if_pos (by omega)]))
      · (unfold zup; repeat (first | rw [if_neg (by omega)] | rw [if_pos (by omega)])); exact x8 k (by omega)
  · rw [if_neg (show ¬ nI m < (30 : Int32) from nI_nlt (b := 30) (by omega) (by omega)), if_pos (show (30 : Int32) ≤ nI m from nI_le (a := 30) (by omega) (by omega))]
    exact ⟨I, J, rfl, rfl, ⟨hR, h3, h4, h5, h6, h7, h8, h9⟩, rfl⟩

def vS (w n K k v f : Nat) : Prop := ∀ (fc fm d : Nat), f ≤ fc → f ≤ fm → d + f ≤ 40 → ∀ (I J : zI) (x : Int32), vR w n K I J → I 184 2 = 0 → ∃ (r : Int32) (I' : zI) (r' : Int32) (J' : zI), fc_Voices_say fc I (nI k) (nI v) x (nI d) = some (r, I') ∧ fm_bodyFrom fm J (nI k) (nI v) x = some (r', J') ∧ vR w n K I' J' ∧ (I' 184 2 = 0 → r = r')
theorem vS_mono {w n K k v f f' : Nat} (h : vS w n K k v f) (hf : f ≤ f') : vS w n K k v f' := fun fc fm d h1 h2 h3 => h fc fm d (by omega) (by omega) (by omega)
theorem vS_of {w n K k v f : Nat} (hw : w < 10) (hk : k < 7) (hv : v < 4) (C : (zI → Int32 → Int32 → Int32 → Int32 → Option (Int32 × zI)) → zI → Int32 → Int32 → Option (Int32 × zI)) (M : (zI → Int32 → Int32 → Int32 → Option (Int32 × zI)) → zI → Int32 → Int32 → Option (Int32 × zI))
    (hC : ∀ rc I x d, fc_Voices_work rc I (nI (zfb k v)) (nI (zfk k v)) x d = C rc I x d)
    (hM : ∀ rc J x, fm_body rc J (nI (zfk k v)) (nI v) x = (fm_walkOf J (J 0 26) 2).bind fun r1 => (fm_began J (nI (zfb k v))).bind fun r => M rc r r1 x)
    (h : ∀ (fc fm d : Nat), f ≤ fc → f ≤ fm → d + f ≤ 40 → ∀ (I J : zI) (x : Int32), vR w n K I J → I 184 2 = 0 → ∃ (r : Int32) (I' : zI) (r' : Int32) (J' : zI), C (fc_Voices_say fc) I x (nI d) = some (r, I') ∧ M (fm_bodyFrom fm) J (nI n) x = some (r', J') ∧ vR w n K I' J' ∧ (I' 184 2 = 0 → r = r')) : vS w n K k v (f + 1) := by
  intro fc fm d h1 h2 h3 I J x hR h0
  obtain ⟨gc, rfl⟩ : ∃ g, fc = g + 1 := ⟨fc - 1, by omega⟩
  obtain ⟨gm, rfl⟩ : ∃ g, fm = g + 1 := ⟨fm - 1, by omega⟩
  rw [fc_Voices_say, fm_bodyFrom, c_say_step _ _ _ _ hk hv, m_say_step _ _ _ hk hv]
  have hJ0 : J 0 27 = 0 := by rw [← hR.2.2.2.2.2.1]; exact h0
  have hwk : fm_walkOf J (J 0 26) 2 = some (nI n) := by
    rw [hR.2.2.2.2.1, k_2, m_walkOf hw (by omega), hR.2.2.2.2.2.2.1]
  obtain ⟨I1, J1, b1, b2, b3, b4⟩ := vR_begin hR (nI (zfb k v))
  rw [if_pos hJ0, hM, hwk, Option.bind_some, b1, b2, Option.bind_some, Option.bind_some, if_neg (show ¬ (40 : Int32) ≤ nI d from nI_ge (b := 40) (by omega) (by omega)), hC, nI_1]
  obtain ⟨r, I', r', J', c1, c2, c3, c4⟩ := h gc gm (d + 1) (by omega) (by omega) (by omega) I1 J1 x b3 (by rw [b4]; exact h0)
  rw [c1, c2]
  exact ⟨r, I', r', J', rfl, rfl, c3, c4⟩
/-- a body that calls one voice -/
theorem vS_one {w n K k v f kk vv : Nat} (hw : w < 10) (hk : k < 7) (hv : v < 4) (g : Int32 → Int32) (G : Int32 → Int32 → Int32 → Int32) (hs : vS w n K kk vv f)
    (hC : ∀ rc I x d, fc_Voices_work rc I (nI (zfb k v)) (nI (zfk k v)) x d = (rc I (nI kk) (nI vv) (g x) d).bind fun r => some (G r.1 (r.2 184 4) (r.2 184 5), r.2))
    (hM : ∀ rc J x, fm_body rc J (nI (zfk k v)) (nI v) x = (fm_walkOf J (J 0 26) 2).bind fun r1 => (fm_began J (nI (zfb k v))).bind fun r => (rc r (nI kk) (nI vv) (g x)).bind fun q => some (G q.1 (q.2 0 26) r1, q.2)) : vS w n K k v (f + 1) := by
  refine vS_of hw hk hv _ (fun rc r r1 x => (rc r (nI kk) (nI vv) (g x)).bind fun q => some (G q.1 (q.2 0 26) r1, q.2)) hC hM ?_
  intro fc fm d h1 h2 h3 I J x hR h0
  obtain ⟨r, I', r', J', c1, c2, c3, c4⟩ := hs fc fm d h1 h2 h3 I J (g x) hR h0
  simp only [c1, c2, Option.bind_some]
  refine ⟨_, _, _, _, rfl, rfl, c3, fun e => ?_⟩
  rw [c4 e, c3.2.2.1, c3.2.2.2.1, c3.2.2.2.2.1]
/-- a body that calls the walk's own voice -/
theorem vS_own {w n K k v f vv : Nat} (hw : w < 10) (hk : k < 7) (hv : v < 4) (g : Int32 → Int32) (G : Int32 → Int32 → Int32 → Int32) (hs : vS w n K K vv f)
    (hC : ∀ rc I x d, fc_Voices_work rc I (nI (zfb k v)) (nI (zfk k v)) x d = (rc I (I 184 3) (nI vv) (g x) d).bind fun r => some (G r.1 (r.2 184 4) (r.2 184 5), r.2))
    (hM : ∀ rc J x, fm_body rc J (nI (zfk k v)) (nI v) x = (fm_walkOf J (J 0 26) 2).bind fun r1 => (fm_began J (nI (zfb k v))).bind fun r => (fm_voiced rc r (nI vv) (g x)).bind fun q => some (G q.1 (q.2 0 26) r1, q.2)) : vS w n K k v (f + 1) := by
  refine vS_of hw hk hv _ (fun rc r r1 x => (fm_voiced rc r (nI vv) (g x)).bind fun q => some (G q.1 (q.2 0 26) r1, q.2)) hC hM ?_
  intro fc fm d h1 h2 h3 I J x hR h0
  obtain ⟨r, I', r', J', c1, c2, c3, c4⟩ := hs fc fm d h1 h2 h3 I J (g x) hR h0
  unfold fm_voiced
  have hwk : fm_walkOf J (J 0 26) 0 = some (nI K) := by
    rw [hR.2.2.2.2.1, k_0, m_walkOf hw (by omega), Nat.add_zero, hR.2.2.2.2.2.2.2]
  simp only [hR.2.1, hwk, c1, c2, Option.bind_some]
  refine ⟨_, _, _, _, rfl, rfl, c3, fun e => ?_⟩
  rw [c4 e, c3.2.2.1, c3.2.2.2.1, c3.2.2.2.2.1]
/-- a body that ends above, then calls the walk's own voice -/
theorem vS_end {w n K k f kk vv y : Nat} (hw : w < 10) (hk : k < 7) (hK : K < 7) (hvv : vv < 4) (G : Int32 → Int32 → Int32) (hs : vS w n K kk 3 f) (ho : vS w n K K vv f)
    (hC : ∀ rc I x d, fc_Voices_work rc I (nI (zfb k 3)) (nI (zfk k 3)) x d = (rc I (nI kk) 3 x d).bind fun r => if r.2 184 2 = 0 then (rc r.2 (r.2 184 3) (nI vv) (nI y) d).bind fun q => some (G r.1 q.1, q.2) else some (0, r.2))
    (hM : ∀ rc J x, fm_body rc J (nI (zfk k 3)) (nI 3) x = (fm_walkOf J (J 0 26) 2).bind fun _ => (fm_began J (nI (zfb k 3))).bind fun r => (rc r (nI kk) 3 x).bind fun p => (fm_voiced rc p.2 (nI vv) (nI y)).bind fun q => some (G p.1 q.1, q.2)) (hf : 1 ≤ f) : vS w n K k 3 (f + 1) := by
  refine vS_of hw hk (by omega) _ (fun rc r _ x => (rc r (nI kk) 3 x).bind fun p => (fm_voiced rc p.2 (nI vv) (nI y)).bind fun q => some (G p.1 q.1, q.2)) hC hM ?_
  intro fc fm d h1 h2 h3 I J x hR h0
  obtain ⟨r, I1, r', J1, c1, c2, c3, c4⟩ := hs fc fm d h1 h2 h3 I J x hR h0
  have c1 : fc_Voices_say fc I (nI kk) 3 x (nI d) = some (r, I1) := c1
  have c2 : fm_bodyFrom fm J (nI kk) 3 x = some (r', J1) := c2
  unfold fm_voiced
  have hwk : fm_walkOf J1 (J1 0 26) 0 = some (nI K) := by
    rw [c3.2.2.2.2.1, k_0, m_walkOf hw (by omega), Nat.add_zero, c3.2.2.2.2.2.2.2]
  simp only [c1, c2, Option.bind_some, hwk]
  by_cases hfl : I1 184 2 = 0
  · obtain ⟨q, I2, q', J2, d1, d2, d3, d4⟩ := ho fc fm d h1 h2 h3 I1 J1 (nI y) c3 hfl
    simp only [hfl, if_true, c3.2.1, d1, d2, Option.bind_some]
    exact ⟨_, _, _, _, rfl, rfl, d3, fun e => by rw [c4 hfl, d4 e]⟩
  · obtain ⟨gm, rfl⟩ : ∃ g, fm = g + 1 := ⟨fm - 1, by omega⟩
    have hJ0 : ¬ J1 0 27 = 0 := by rw [← c3.2.2.2.2.2.1]; exact hfl
    rw [fm_bodyFrom, m_say_step _ _ _ hK hvv, if_neg hJ0]
    simp only [hfl, if_false, Option.bind_some]
    exact ⟨_, _, _, _, rfl, rfl, c3, fun e => absurd e hfl⟩
