/-! what leaves the relation as it was -/
theorem gC_cg {V V' : zI} {ns nj : Nat} {cs ea eb tt : Nat → Nat} (h : gC V ns nj cs ea eb tt) (e : ∀ c k, 2 ≤ c → c ≤ 6 → V' c k = V c k) : gC V' ns nj cs ea eb tt := by
  obtain ⟨h1, h2, h3, h4, h5⟩ := h
  refine ⟨by rw [e 2 0 (by omega) (by omega)]; exact h1, by rw [e 2 2 (by omega) (by omega)]; exact h2, fun i hi => by rw [e 3 i (by omega) (by omega)]; exact h3 i hi, fun j hj => ?_, fun q hq => by rw [e 6 q (by omega) (by omega)]; exact h5 q hq⟩
  rw [e 4 _ (by omega) (by omega), e 4 _ (by omega) (by omega), e 5 _ (by omega) (by omega)]
  exact h4 j hj
theorem gM_cg {B B' : Nat → Int32} {ns nj : Nat} {cs ea eb tt : Nat → Nat} (hw : ns ≤ 8 ∧ nj ≤ 16) (h : gM B ns nj cs ea eb tt) (e : ∀ k, (k < 2 ∨ 10 ≤ k ∧ k < 66) → B' k = B k) : gM B' ns nj cs ea eb tt := by
  obtain ⟨h1, h2, h3, h4⟩ := h
  refine ⟨by rw [e 0 (by omega)]; exact h1, by rw [e 1 (by omega)]; exact h2, fun i hi => by rw [e _ (by omega)]; exact h3 i hi, fun j hj => ?_⟩
  rw [e _ (by omega), e _ (by omega), e _ (by omega)]
  exact h4 j hj
theorem wC_cg {V V' : zI} {nw : Nat} {kd bg sp : Nat → Nat} {mk : Nat → Int32} {eg : Nat → Nat → Nat} (hw : nw ≤ 10) (h : wC V nw kd bg sp mk eg) (e : ∀ c k, 7 ≤ c → c ≤ 22 → V' c k = V c k) : wC V' nw kd bg sp mk eg := by
  obtain ⟨h1, h2⟩ := h
  refine ⟨by rw [e 7 0 (by omega) (by omega)]; exact h1, fun w hw2 => ?_⟩
  rw [e 8 _ (by omega) (by omega), e 9 _ (by omega) (by omega), e 10 _ (by omega) (by omega), e 11 _ (by omega) (by omega)]
  obtain ⟨a1, a2, a3, a4, a5⟩ := h2 w hw2
  exact ⟨a1, a2, a3, a4, fun k hk => by rw [e _ _ (by omega) (by omega)]; exact a5 k hk⟩
theorem wM_cg {B B' : Nat → Int32} {nw : Nat} {kd bg sp : Nat → Nat} {mk : Nat → Int32} {eg : Nat → Nat → Nat} (hw : nw ≤ 10) (hs : ∀ w, w < nw → sp w ≤ 8) (h : wM B nw kd bg sp mk eg) (e : ∀ k, (k = 2 ∨ 66 ≤ k ∧ k < 186) → B' k = B k) : wM B' nw kd bg sp mk eg := by
  obtain ⟨h1, h2⟩ := h
  refine ⟨by rw [e 2 (by omega)]; exact h1, fun w hw2 => ?_⟩
  rw [e _ (by omega), e _ (by omega), e _ (by omega), e _ (by omega)]
  obtain ⟨a1, a2, a3, a4, a5⟩ := h2 w hw2
  have := hs w hw2
  exact ⟨a1, a2, a3, a4, fun k hk => by rw [e _ (by omega)]; exact a5 k hk⟩
theorem fC_cg {V V' : zI} {np : Nat} {pl hr : Nat → Nat} {nt : Nat} {ly wo al : Nat → Nat} (h : fC V np pl hr nt ly wo al) (e : ∀ c k, 23 ≤ c → c ≤ 28 → V' c k = V c k) : fC V' np pl hr nt ly wo al := by
  obtain ⟨h1, h2, h3, h4⟩ := h
  refine ⟨by rw [e 23 0 (by omega) (by omega)]; exact h1, by rw [e 23 3 (by omega) (by omega)]; exact h2, fun p hp => ?_, fun t ht => ?_⟩
  · rw [e 24 _ (by omega) (by omega), e 25 _ (by omega) (by omega)]; exact h3 p hp
  · rw [e 26 _ (by omega) (by omega), e 27 _ (by omega) (by omega), e 28 _ (by omega) (by omega)]; exact h4 t ht
theorem fM_cg {B B' : Nat → Int32} {np : Nat} {pl hr : Nat → Nat} {nt : Nat} {ly wo al : Nat → Nat} (hw : np ≤ 6 ∧ nt ≤ 6) (h : fM B np pl hr nt ly wo al) (e : ∀ k, (k = 3 ∨ k = 4 ∨ 186 ≤ k ∧ k < 216) → B' k = B k) : fM B' np pl hr nt ly wo al := by
  obtain ⟨h1, h2, h3, h4⟩ := h
  refine ⟨by rw [e 3 (by omega)]; exact h1, by rw [e 4 (by omega)]; exact h2, fun p hp => ?_, fun t ht => ?_⟩
  · rw [e _ (by omega), e _ (by omega)]; exact h3 p hp
  · rw [e _ (by omega), e _ (by omega), e _ (by omega)]; exact h4 t ht
theorem dC_cg {V V' : zI} {dm nf : Nat} {fw fo : Nat → Nat} (h : dC V dm nf fw fo) (e : ∀ c k, (c = 29 ∧ k < 2 ∨ c = 30 ∨ c = 31) → V' c k = V c k) : dC V' dm nf fw fo := by
  obtain ⟨h1, h2, h3⟩ := h
  refine ⟨by rw [e 29 0 (by omega)]; exact h1, by rw [e 29 1 (by omega)]; exact h2, fun f hf => ?_⟩
  rw [e 30 _ (by omega), e 31 _ (by omega)]; exact h3 f hf
theorem dM_cg {B B' : Nat → Int32} {dm nf : Nat} {fw fo : Nat → Nat} (hw : nf ≤ 12) (h : dM B dm nf fw fo) (e : ∀ k, (k = 5 ∨ k = 9 ∨ 216 ≤ k ∧ k < 240) → B' k = B k) : dM B' dm nf fw fo := by
  obtain ⟨h1, h2, h3⟩ := h
  refine ⟨by rw [e 9 (by omega)]; exact h1, by rw [e 5 (by omega)]; exact h2, fun f hf => ?_⟩
  rw [e _ (by omega), e _ (by omega)]; exact h3 f hf
theorem tC_cg {V V' : zI} {c : Nat} {t : Option (List (Nat × Nat))} (h : tC V c t) (e : ∀ d k, c ≤ d → d ≤ c + 2 → V' d k = V d k) : tC V' c t := by
  cases t with
  | none => show V' c 0 = 0; rw [e c 0 (by omega) (by omega)]; exact h
  | some l =>
    obtain ⟨h1, h2, h3⟩ := h
    exact ⟨by rw [e c 0 (by omega) (by omega)]; exact h1, by rw [e c 1 (by omega) (by omega)]; exact h2, fun k hk => by rw [e (c + 1) k (by omega) (by omega), e (c + 2) k (by omega) (by omega)]; exact h3 k hk⟩
theorem tM_cg {nn : Nat} {B B' : Nat → Int32} {c : Nat} {t : Option (List (Nat × Nat))} (hw : wfT nn t) (h : tM B c t) (e : ∀ k, c ≤ k → k < c + 62 → B' k = B k) : tM B' c t := by
  cases t with
  | none => show B' c = 0; rw [e c (by omega) (by omega)]; exact h
  | some l =>
    obtain ⟨h1, h2⟩ := h
    have := hw.1
    exact ⟨by rw [e c (by omega) (by omega)]; exact h1, fun k hk => by rw [e (c + 1 + k) (by omega) (by omega)]; exact h2 k hk⟩
theorem rL_cg {V V' : zI} {B B' : Nat → Int32} (h : rL V B) (e : ∀ c k, (2 ≤ c ∧ c ≤ 28 ∨ c = 29 ∧ k < 2 ∨ c = 30 ∨ c = 31) → V' c k = V c k) (e2 : ∀ k, (k ≤ 5 ∨ 9 ≤ k ∧ k < 240) → B' k = B k) : rL V' B' := by
  obtain ⟨ns, nj, cs, ea, eb, tt, nw, kd, bg, sp, mk, eg, np, pl, hr, nt, ly, wo, al, dm, nf, fw, fo, ⟨g1, g2, g3⟩, ⟨w1, w2, w3⟩, ⟨f1, f2, f3⟩, ⟨d1, d2, d3⟩⟩ := h
  exact ⟨ns, nj, cs, ea, eb, tt, nw, kd, bg, sp, mk, eg, np, pl, hr, nt, ly, wo, al, dm, nf, fw, fo, ⟨g1, gC_cg g2 (fun c k _ _ => e c k (by omega)), gM_cg ⟨g1.1, g1.2.1⟩ g3 (fun k _ => e2 k (by omega))⟩, ⟨w1, wC_cg w1.1 w2 (fun c k _ _ => e c k (by omega)), wM_cg w1.1 (fun w hw => (w1.2 w hw).2.2.1) w3 (fun k _ => e2 k (by omega))⟩, ⟨f1, fC_cg f2 (fun c k _ _ => e c k (by omega)), fM_cg ⟨f1.1, f1.2.2.1⟩ f3 (fun k _ => e2 k (by omega))⟩, ⟨d1, dC_cg d2 (fun c k _ => e c k (by omega)), dM_cg d1.2.2.1 d3 (fun k _ => e2 k (by omega))⟩⟩
theorem rT_cg {V V' : zI} {B B' : Nat → Int32} (h : rT V B) (e : ∀ c k, (35 ≤ c ∧ c ≤ 37 ∨ 40 ≤ c ∧ c ≤ 42) → V' c k = V c k) (e2 : ∀ k, 324 ≤ k → k < 448 → B' k = B k) : rT V' B' := by
  obtain ⟨⟨t, h1, h2, h3⟩, ⟨u, h4, h5, h6⟩⟩ := h
  exact ⟨⟨t, h1, tC_cg h2 (fun c k _ _ => e c k (by omega)), tM_cg h1 h3 (fun k _ _ => e2 k (by omega) (by omega))⟩, ⟨u, h4, tC_cg h5 (fun c k _ _ => e c k (by omega)), tM_cg h4 h6 (fun k _ _ => e2 k (by omega) (by omega))⟩⟩
theorem rP_cg {V V' : zI} {B B' : Nat → Int32} (h : rP V B) (e : ∀ c k, (c = 1 ∧ 7 ≤ k ∨ c = 45 ∨ c = 46) → V' c k = V c k) (e2 : ∀ k, (6 ≤ k ∧ k ≤ 8 ∨ 240 ≤ k ∧ k < 324) → B' k = B k) : rP V' B' := by
  obtain ⟨⟨n, b, h1, h2, h3, h4⟩, ⟨m, h5, h6, h7, h8⟩, h9⟩ := h
  refine ⟨⟨n, b, h1, by rw [e 1 7 (by omega)]; exact h2, by rw [e2 6 (by omega)]; exact h3, fun k hk => ?_⟩, ⟨m, h5, by rw [e 1 9 (by omega)]; exact h6, by rw [e2 7 (by omega)]; exact h7, fun k hk => ?_⟩, by rw [e 1 10 (by omega), e2 8 (by omega)]; exact h9⟩
  · rw [e 45 k (by omega), e2 (240 + k) (by omega)]; exact h4 k hk
  · rw [e 46 k (by omega), e2 (300 + k) (by omega)]; exact h8 k hk
def zwrel (c k : Nat) : Prop := c = 1 ∧ 7 ≤ k ∨ 2 ≤ c ∧ c ≤ 28 ∨ c = 29 ∧ k < 2 ∨ c = 30 ∨ c = 31 ∨ 35 ≤ c ∧ c ≤ 37 ∨ 40 ≤ c ∧ c ≤ 42 ∨ c = 45 ∨ c = 46
theorem rW_cg {V V' : zI} {B B' : Nat → Int32} (h : rW V B) (e : ∀ c k, zwrel c k → V' c k = V c k) (e2 : ∀ k, k < 448 → B' k = B k) : rW V' B' :=
  ⟨rL_cg h.1 (fun c k hc => e c k (by unfold zwrel; omega)) (fun k hk => e2 k (by omega)), rT_cg h.2.1 (fun c k hc => e c k (by unfold zwrel; omega)) (fun k _ h => e2 k h), rP_cg h.2.2 (fun c k hc => e c k (by unfold zwrel; omega)) (fun k hk => e2 k (by omega))⟩
/-- the cells and slots that count, beside the land's own -/
def zxrel (c k : Nat) : Prop := c = 0 ∧ k = 2 ∨ 47 ≤ c ∧ c ≤ 95 ∨ 97 ≤ c ∧ c ≤ 100 ∨ c = 184 ∧ k = 1 ∨ c = 185
def mxrel (c k : Nat) : Prop := c = 0 ∧ (k = 2 ∨ k = 25) ∨ c = 2 ∨ c = 3 ∨ 11 ≤ c ∧ c ≤ 14
theorem rX_cg {I I' J J' : zI} (h : rX I J) (e : ∀ c k, zxrel c k → I' c k = I c k) (e2 : ∀ c k, mxrel c k → J' c k = J c k) : rX I' J' := by
  obtain ⟨h1, h2, h3, h4, n, h5, h6, h7, h8⟩ := h
  have eI : ∀ c k, (c = 0 ∧ k = 2 ∨ 47 ≤ c ∧ c ≤ 95 ∨ 97 ≤ c ∧ c ≤ 100 ∨ c = 184 ∧ k = 1 ∨ c = 185) → I' c k = I c k := e
  have eJ : ∀ c k, (c = 0 ∧ (k = 2 ∨ k = 25) ∨ c = 2 ∨ c = 3 ∨ 11 ≤ c ∧ c ≤ 14) → J' c k = J c k := e2
  refine ⟨fun s hs => ?_, fun k hk => ?_, ?_, ?_, n, h5, ?_, ?_, fun k hk => ?_⟩
  · obtain ⟨a1, a2, a3, a4, a5⟩ := h1 s hs
    rw [eJ 12 s (by omega), eJ 13 s (by omega), eI 94 s (by omega), eI 95 s (by omega)]
    exact ⟨a1, a2, a3, a4, fun k hk => by rw [eI (97 + s) k (by omega), eJ 14 _ (by omega)]; exact a5 k hk⟩
  · rw [eJ 3 k (by omega), eI 93 k (by omega)]; exact h2 k hk
  · rw [eJ 0 2 (by omega), eI 0 2 (by omega)]; exact h3
  · rw [eI 0 2 (by omega)]
    rcases h4 with h4 | h4
    · exact Or.inl h4
    · refine Or.inr (rW_cg h4 (fun c k hc => ?_) (fun k _ => eJ 2 k (by omega)))
      show I' (c + 46) k = I (c + 46) k
      unfold zwrel at hc
      exact eI _ _ (by omega)
  · rw [eI 184 1 (by omega)]; exact h6
  · rw [eJ 0 25 (by omega)]; exact h7
  · rw [eJ 11 k (by omega), eI 185 k (by omega)]; exact h8 k hk
theorem rR_cg {I I' J J' : zI} (h : rR I J) (e : ∀ c k, (zwrel c k ∨ zxrel c k) → I' c k = I c k) (e1 : ∀ k, k < 448 → J' 1 k = J 1 k) (e2 : ∀ c k, mxrel c k → J' c k = J c k) : rR I' J' :=
  ⟨rW_cg h.1 (fun c k hc => e c k (Or.inl hc)) e1, rX_cg h.2 (fun c k hc => e c k (Or.inr hc)) e2⟩
theorem zup_o {I : zI} {i k c j : Nat} {x : Int32} (h : c ≠ i ∨ j ≠ k) : zup I i k x c j = I c j := by
  unfold zup
  rw [if_neg]
  omega
theorem zup_y {I : zI} {i k : Nat} {x : Int32} : zup I i k x i k = x := by simp [zup]
/-! errors -/
theorem zsim_err {I J : zI} {e f : Int32} {k : Nat} (h : rR I J) (h1 : 1 ≤ k) (h6 : k ≤ 6) (he : e = nI k) (hf : f = -1000000 - nI k) : zSim (fc_T_refuse I e) (fm_finding J f) := by
  subst he
  subst hf
  have c1 : fc_T_refuse I (nI k) = some (-1000000 - nI k, zup I 93 k (I 93 k + 1)) := by
    unfold fc_T_refuse
    rw [cwi]
    have a1 : (1 : Int32) ≤ nI k ∧ nI k ≤ 6 := ⟨nI_le (a := 1) h1 (by omega), nI_le (b := 6) h6 (by omega)⟩
    simp (disch := omega) [a1, z_guard, zl_b, nI_clamp, show k < 7 by omega]
  have e2 : (-1000000 : Int32) - (-1000000 - nI k) = nI k := by grind
  have c2 : fm_finding J (-1000000 - nI k) = some (-1000000 - nI k, zup J 3 k (J 3 k + 1)) := by
    unfold fm_finding
    rw [e2]
    simp (disch := omega) [z_guard, zl_b, nI_clamp, show k < 7 by omega]
  refine ⟨_, _, _, c1, c2, ?_⟩
  refine ⟨rW_cg h.1 (fun c j hc => zup_o (by unfold zwrel at hc; omega)) (fun j _ => zup_o (by omega)), ?_⟩
  obtain ⟨x1, x2, x3, x4, x5⟩ := h.2
  have y := rX_cg (I' := zup I 93 k (I 93 k + 1)) (J' := zup J 3 k (J 3 k + 1)) h.2
  refine ⟨fun s hs => ?_, fun j hj => ?_, ?_, ?_, ?_⟩
  · obtain ⟨a1, a2, a3, a4, a5⟩ := x1 s hs
    rw [zup_o (by omega), zup_o (by omega), zup_o (by omega), zup_o (by omega)]
    exact ⟨a1, a2, a3, a4, fun k hk => by rw [zup_o (by omega), zup_o (by omega)]; exact a5 k hk⟩
  · by_cases hjk : j = k
    · subst hjk; rw [zup_y, zup_y, x2 j hj]
    · rw [zup_o (by omega), zup_o (by omega)]; exact x2 j hj
  · rw [zup_o (by omega), zup_o (by omega)]; exact x3
  · rw [zup_o (by omega)]
    rcases x4 with x4 | x4
    · exact Or.inl x4
    · exact Or.inr (rW_cg x4 (fun c j hc => zup_o (by unfold zwrel at hc; omega)) (fun j _ => zup_o (by omega)))
  · obtain ⟨n, a1, a2, a3, a4⟩ := x5
    exact ⟨n, a1, by rw [zup_o (by omega)]; exact a2, by rw [zup_o (by omega)]; exact a3, fun j hj => by rw [zup_o (by omega), zup_o (by omega)]; exact a4 j hj⟩
/-- both go on with an error's answer -/
theorem zSim_e {a b : Option (Int32 × zI)} (h : zSim a b) : zSim (a.bind fun r => some (r.1, r.2)) (b.bind fun r => some (r.1, r.2)) := by
  obtain ⟨r, I, J, h1, h2, h3⟩ := h
  exact ⟨r, I, J, by rw [h1]; rfl, by rw [h2]; rfl, h3⟩
