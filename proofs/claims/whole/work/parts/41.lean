/-! bring -/
def zsoo (D : Nat → Option Nat) (s : Nat) : Option Nat := match D (2 * s), D (2 * s + 1) with
  | none, none => none
  | some _, none => some (2 * s)
  | none, some _ => some (2 * s + 1)
  | some x, some y => if x ≤ y then some (2 * s) else some (2 * s + 1)
theorem c_sooner {V : zI} {D : Nat → Option Nat} {F : Nat → Nat} (hw : zwst V 105 D F) (hb : ∀ p d, D p = some d → d ≤ 15984) {s : Nat} (hs : s < 8) : fc_Ways_sooner V (nI s) = some (zov (zsoo D s)) := by
  unfold fc_Ways_sooner zsoo
  rw [show (2 : Int32) * nI s = nI (2 * s) from zl_mul 2 s, nI_1, zl_b (by omega), show decide (2 * s < 16) = true from decide_eq_true (by omega), zl_b (by omega), show decide (2 * s + 1 < 16) = true from decide_eq_true (by omega), zl_cl _ (by omega), zl_cl _ (by omega), (hw (2 * s) (by omega)).1, (hw (2 * s + 1) (by omega)).1]
  simp only [z_guard, if_true]
  cases e1 : D (2 * s) with
  | none =>
    cases e2 : D (2 * s + 1) with
    | none => rw [if_neg (show ¬ (0 : Int32) ≤ zov none by decide), if_neg (show ¬ (0 : Int32) ≤ zov none by decide)]; rfl
    | some y =>
      have hy := hb _ _ e2
      rw [if_neg (show ¬ (0 : Int32) ≤ zov none by decide), if_pos (show (0 : Int32) ≤ zov (some y) from nI_pos' (by omega)), if_pos (show zov none < 0 by decide)]; rfl
  | some x =>
    have hx := hb _ _ e1
    rw [if_pos (show (0 : Int32) ≤ zov (some x) from nI_pos' (by omega)), if_neg (show ¬ zov (some x) < 0 from nI_pos (by omega))]
    cases e2 : D (2 * s + 1) with
    | none => rw [if_pos (show zov none < 0 by decide)]; rfl
    | some y =>
      have hy := hb _ _ e2
      rw [if_neg (show ¬ zov (some y) < 0 from nI_pos (by omega))]
      by_cases hc : x ≤ y
      · rw [if_pos (show zov (some x) ≤ zov (some y) from nI_le hc (by omega))]
        simp only [hc, if_true]
        rfl
      · rw [if_neg (show ¬ zov (some x) ≤ zov (some y) from nI_ge (by omega) (by omega))]
        simp only [hc, if_false]
        rfl
theorem sim_bring_L {I J : zI} (h : rR I J) {ns nt np : Nat} {T : Nat → Nat → Option (Nat × Nat)} {pl hr ly wo al : Nat → Nat} {t' : Option (List (Nat × Nat))} (hT : wT ns T) (hC : cT I ns T) (hM : mT J ns T) (f1 : wfF ns np pl hr nt ly wo al) (f2 : fC I np pl hr nt ly wo al) (f3 : fM (J 1) np pl hr nt ly wo al) (q1 : wfT 3 t') (q2 : tC I 40 t') (q3 : tM (J 1) 386 t') {p : Nat} (hp : p < np) : ∀ (m k fuel : Nat) (V U : zI) (b : Option Nat) (w : Int32), k + m = nt → m < fuel → (∀ c j, c ≠ 38 → c ≠ 39 → c ≠ 43 → c ≠ 44 → ¬ (104 ≤ c ∧ c ≤ 140) → V c j = I c j) → V 104 4 = nI (2 * ns) → zwsv V 108 125 ns T → (∀ c j, c ≠ 7 → c ≠ 8 → c ≠ 9 → ¬ (c = 0 ∧ (j = 14 ∨ j = 15)) → U c j = J c j) → (∀ x, b = some x → x < 6) → zSim (fc_T_bring_L41 fuel (nI p) (zov b) w (nI k) V) (fm_bring_L32 fuel (nI p) (nI (pl p / 2)) (zov b) w (nI k) U) := by
  have hns := hT.1
  have hnp := f1.1
  have hnt := f1.2.2.1
  intro m
  induction m with
  | zero =>
    intro k fuel V U b w hk hf hV h4 hs hU hb
    obtain ⟨f, rfl⟩ : ∃ f, fuel = f + 1 := ⟨fuel - 1, by omega⟩
    have hk4 : k = nt := by omega
    subst hk4
    have e1 : V 23 3 = nI k := by rw [hV _ _ (by omega) (by omega) (by omega) (by omega) (by omega)]; exact f2.2.1
    have e2 : U 1 4 = nI k := by rw [hU _ _ (by omega) (by omega) (by omega) (by omega)]; exact f3.2.1
    have hR : rR V U := rR_way h (fun x j k1 k2 k3 k4 k5 => hV x j k1 k2 k3 k4 (by omega)) hU
    rw [fc_T_bring_L41, e1, if_pos (nI_le (Nat.le_refl _) (by omega)), fm_bring_L32, show (4 : Int32).toNatClampNeg = 4 from by decide, e2, if_pos (nI_le (Nat.le_refl _) (by omega))]
    cases b with
    | none =>
      rw [if_neg (show ¬ (0 : Int32) ≤ zov none by decide), if_neg (show ¬ (0 : Int32) ≤ zov none by decide)]
      exact zSim_e (zsim_err hR (k := 2) (by omega) (by omega) rfl (by decide))
    | some x =>
      have := hb x rfl
      rw [if_pos (show (0 : Int32) ≤ zov (some x) from nI_pos' (by omega)), if_pos (show (0 : Int32) ≤ zov (some x) from nI_pos' (by omega))]
      exact zSim_i rfl rfl hR
  | succ m ih =>
    intro k fuel V U b w hk hf hV h4 hs hU hb
    obtain ⟨f, rfl⟩ : ∃ f, fuel = f + 1 := ⟨fuel - 1, by omega⟩
    have e1 : V 23 3 = nI nt := by rw [hV _ _ (by omega) (by omega) (by omega) (by omega) (by omega)]; exact f2.2.1
    have e2 : U 1 4 = nI nt := by rw [hU _ _ (by omega) (by omega) (by omega) (by omega)]; exact f3.2.1
    obtain ⟨l1, l2, l3⟩ := f1.2.2.2 k (by omega)
    have lp := (f1.2.1 p hp).1
    obtain ⟨c1, c2, c3⟩ := f2.2.2.2 k (by omega)
    have c0 := (f2.2.2.1 p hp).1
    obtain ⟨m1, m2, m3⟩ := f3.2.2.2 k (by omega)
    have m0 := (f3.2.2.1 p hp).1
    have e3 : V 26 k = nI (ly k) := by rw [hV _ _ (by omega) (by omega) (by omega) (by omega) (by omega)]; exact c1
    obtain ⟨V1, D, F, r1, r2, r3, r4, r5⟩ := c_spread hT l1 h4 hs
    have hV1 : ∀ c j, c ≠ 38 → c ≠ 39 → c ≠ 43 → c ≠ 44 → ¬ (104 ≤ c ∧ c ≤ 140) → V1 c j = I c j := fun c j k1 k2 k3 k4 k5 => by rw [r5 c j (by omega) (by omega)]; exact hV c j k1 k2 k3 k4 k5
    have h41 : V1 104 4 = nI (2 * ns) := by rw [r5 _ _ (by omega) (by omega)]; exact h4
    have hs1 : zwsv V1 108 125 ns T := fun x e hx he => by rw [r5 _ _ (by omega) (by omega), r5 _ _ (by omega) (by omega)]; exact hs x e hx he
    have e4 : V1 24 p = nI (pl p) := by rw [hV1 _ _ (by omega) (by omega) (by omega) (by omega) (by omega)]; exact c0
    have e5 : fm_thingOf U (nI k) (0 : Int32) = some (nI (ly k)) := by rw [show (0 : Int32) = nI 0 from rfl, m_thingOf (by omega) (by omega), Nat.add_zero, hU _ _ (by omega) (by omega) (by omega) (by omega), m1]
    have hMU : mT U ns T := mT_cg hM (fun j _ => hU 1 j (by omega) (by omega) (by omega) (by omega))
    obtain ⟨U1, s1, s2, s3⟩ := m_findS hT hMU l1 r3
    have hU1 : ∀ c j, c ≠ 7 → c ≠ 8 → c ≠ 9 → ¬ (c = 0 ∧ (j = 14 ∨ j = 15)) → U1 c j = J c j := fun c j k1 k2 k3 k4 => by rw [s3 c j k1 k2 k3 k4]; exact hU c j k1 k2 k3 k4
    have hbd : ∀ x d, D x = some d → d ≤ 15984 := fun x d hd => (r3.2.1 x d hd).2
    have e6 : fm_whereIs U1 (nI p) = some (nI (pl p)) := by rw [m_whereIs (by omega), hU1 _ _ (by omega) (by omega) (by omega) (by omega), m0]
    have hcp : ∀ x, x < 2 → ∃ V', fc_World_price V1 (nI k) (nI x) (nI (pl p % 2)) = some (nI (zpr t' (wo k) (al k) (if x = pl p % 2 then 1 else 0)), V') ∧ ∀ i j, i ≠ 43 → i ≠ 44 → V' i j = V1 i j := fun x hx =>
      c_price q1 (tC_cg q2 (fun c j h1 h2 => hV1 c j (by omega) (by omega) (by omega) (by omega) (by omega))) (by omega) (by rw [hV1 _ _ (by omega) (by omega) (by omega) (by omega) (by omega)]; exact c2) (by rw [hV1 _ _ (by omega) (by omega) (by omega) (by omega) (by omega)]; exact c3) l2 l3 hx (by omega)
    have hmp : ∀ x, x < 2 → ∃ U', fm_priceOf U1 (nI k) (nI x) (nI (pl p % 2)) = some (nI (zpr t' (wo k) (al k) (if x = pl p % 2 then 1 else 0)), U') ∧ ∀ i j, i ≠ 7 → i ≠ 8 → U' i j = U1 i j := fun x hx =>
      m_price q1 (tM_cg q1 q3 (fun j h1 h2 => hU1 1 j (by omega) (by omega) (by omega) (by omega))) (by omega) (by rw [hU1 _ _ (by omega) (by omega) (by omega) (by omega)]; exact m2) (by rw [hU1 _ _ (by omega) (by omega) (by omega) (by omega)]; exact m3) l2 l3 hx (by omega)
    -- on, with the thing passed over, or weighed
    have hskip : ∀ U2 : zI, (∀ c j, c ≠ 7 → c ≠ 8 → c ≠ 9 → ¬ (c = 0 ∧ (j = 14 ∨ j = 15)) → U2 c j = J c j) → zSim (fc_T_bring_L41 f (nI p) (zov b) w (nI (k + 1)) V1) (fm_bring_L32 f (nI p) (nI (pl p / 2)) (zov b) w (nI (k + 1)) U2) := fun U2 hU2 =>
      ih (k + 1) f V1 U2 b w (by omega) (by omega) hV1 h41 hs1 hU2 hb
    have htail : ∀ (V2 U2 : zI) (x : Int32), (∀ i j, i ≠ 43 → i ≠ 44 → V2 i j = V1 i j) → (∀ i j, i ≠ 7 → i ≠ 8 → U2 i j = U1 i j) → zSim (if zov b < 0 then fc_T_bring_L41 f (nI p) (nI k) x (nI (k + 1)) V2 else if x ≤ w then fc_T_bring_L41 f (nI p) (zov b) w (nI (k + 1)) V2 else fc_T_bring_L41 f (nI p) (nI k) x (nI (k + 1)) V2) (if zov b < 0 then fm_bring_L32 f (nI p) (nI (pl p / 2)) (nI k) x (nI (k + 1)) U2 else if x ≤ w then fm_bring_L32 f (nI p) (nI (pl p / 2)) (zov b) w (nI (k + 1)) U2 else fm_bring_L32 f (nI p) (nI (pl p / 2)) (nI k) x (nI (k + 1)) U2) := fun V2 U2 x g1 g2 => by
      have k1 : ∀ c j, c ≠ 38 → c ≠ 39 → c ≠ 43 → c ≠ 44 → ¬ (104 ≤ c ∧ c ≤ 140) → V2 c j = I c j := fun c j a1 a2 a3 a4 a5 => by rw [g1 c j a3 a4]; exact hV1 c j a1 a2 a3 a4 a5
      have k2 : V2 104 4 = nI (2 * ns) := by rw [g1 _ _ (by omega) (by omega)]; exact h41
      have k3 : zwsv V2 108 125 ns T := fun x e hx he => by rw [g1 _ _ (by omega) (by omega), g1 _ _ (by omega) (by omega)]; exact hs1 x e hx he
      have k4 : ∀ c j, c ≠ 7 → c ≠ 8 → c ≠ 9 → ¬ (c = 0 ∧ (j = 14 ∨ j = 15)) → U2 c j = J c j := fun c j a1 a2 a3 a4 => by rw [g2 c j a1 a2]; exact hU1 c j a1 a2 a3 a4
      have it := ih (k + 1) f V2 U2 (some k) x (by omega) (by omega) k1 k2 k3 k4 (fun y hy => by cases hy; omega)
      by_cases hz : zov b < 0
      · rw [if_pos hz, if_pos hz]; exact it
      · rw [if_neg hz, if_neg hz]
        by_cases hx : x ≤ w
        · rw [if_pos hx, if_pos hx]; exact ih (k + 1) f V2 U2 b w (by omega) (by omega) k1 k2 k3 k4 hb
        · rw [if_neg hx, if_neg hx]; exact it
    have hc : fc_T_bring_L41 (f + 1) (nI p) (zov b) w (nI k) V = if zov (zsoo D (pl p / 2)) = -1 then fc_T_bring_L41 f (nI p) (zov b) w (nI (k + 1)) V1 else (fc_World_price V1 (nI k) (zov (zsoo D (pl p / 2)) % (2 : Int32)) (nI (pl p % 2))).bind fun r17 => z_guard (zb (zov (zsoo D (pl p / 2))) 16) <| if zov b < 0 then fc_T_bring_L41 f (nI p) (nI k) (r17.1 - (r17.2 105 (zov (zsoo D (pl p / 2))).toNatClampNeg)) (nI (k + 1)) r17.2 else if (r17.1 - (r17.2 105 (zov (zsoo D (pl p / 2))).toNatClampNeg)) ≤ w then fc_T_bring_L41 f (nI p) (zov b) w (nI (k + 1)) r17.2 else fc_T_bring_L41 f (nI p) (nI k) (r17.1 - (r17.2 105 (zov (zsoo D (pl p / 2))).toNatClampNeg)) (nI (k + 1)) r17.2 := by
      rw [fc_T_bring_L41, e1, if_neg (nI_ge (by omega) (by omega)), zl_b (by omega), show decide (k < 6) = true from decide_eq_true (by omega), zl_cl k (by omega), e3, r1, Option.bind_some, zl_b (by omega), show decide (p < 6) = true from decide_eq_true (by omega), zl_cl p (by omega), e4, show nI (pl p) / (2 : Int32) = nI (pl p / 2) from zl_div (pl p) 2 (by omega) (by omega) (by omega), show nI (pl p) % (2 : Int32) = nI (pl p % 2) from zl_mod (pl p) 2 (by omega) (by omega) (by omega), c_sooner r2 hbd (by omega), nI_1]
      rfl
    rw [hc, fm_bring_L32, show (4 : Int32).toNatClampNeg = 4 from by decide, e2, if_neg (nI_ge (by omega) (by omega)), e5, Option.bind_some, s1, Option.bind_some, show (2 : Int32) * nI (pl p / 2) = nI (2 * (pl p / 2)) from zl_mul 2 (pl p / 2), nI_1, nI_1, show nI (2 * (pl p / 2)) + (0 : Int32) = nI (2 * (pl p / 2)) from Int32.add_zero _, zl_b (by omega), show decide (2 * (pl p / 2) + 1 < 16) = true from decide_eq_true (by omega), zl_b (by omega), show decide (2 * (pl p / 2) < 16) = true from decide_eq_true (by omega), zl_cl _ (by omega), zl_cl _ (by omega), s2 _ (by omega), s2 _ (by omega), e6, Option.bind_some, Option.bind_some, show nI (pl p) % (2 : Int32) = nI (pl p % 2) from zl_mod (pl p) 2 (by omega) (by omega) (by omega)]
    simp only [z_guard, if_true]
    obtain ⟨U0, y1, y2⟩ := hmp 0 (by omega)
    obtain ⟨U3, y3, y4⟩ := hmp 1 (by omega)
    obtain ⟨V0, x1, x2⟩ := hcp 0 (by omega)
    obtain ⟨V3, x3, x4⟩ := hcp 1 (by omega)
    have y1 : fm_priceOf U1 (nI k) (0 : Int32) (nI (pl p % 2)) = some (nI (zpr t' (wo k) (al k) (if 0 = pl p % 2 then 1 else 0)), U0) := y1
    have y3 : fm_priceOf U1 (nI k) (1 : Int32) (nI (pl p % 2)) = some (nI (zpr t' (wo k) (al k) (if 1 = pl p % 2 then 1 else 0)), U3) := y3
    rw [y1, y3, Option.bind_some, Option.bind_some]
    have hU0 : ∀ c j, c ≠ 7 → c ≠ 8 → c ≠ 9 → ¬ (c = 0 ∧ (j = 14 ∨ j = 15)) → U0 c j = J c j := fun c j a1 a2 a3 a4 => by rw [y2 c j a1 a2]; exact hU1 c j a1 a2 a3 a4
    -- the two places of the square
    have go0 : ∀ d, D (2 * (pl p / 2)) = some d → zsoo D (pl p / 2) = some (2 * (pl p / 2)) → zSim (if zov (zsoo D (pl p / 2)) = -1 then fc_T_bring_L41 f (nI p) (zov b) w (nI (k + 1)) V1 else (fc_World_price V1 (nI k) (zov (zsoo D (pl p / 2)) % (2 : Int32)) (nI (pl p % 2))).bind fun r17 => if zb (zov (zsoo D (pl p / 2))) 16 = true then (if zov b < 0 then fc_T_bring_L41 f (nI p) (nI k) (r17.1 - (r17.2 105 (zov (zsoo D (pl p / 2))).toNatClampNeg)) (nI (k + 1)) r17.2 else if (r17.1 - (r17.2 105 (zov (zsoo D (pl p / 2))).toNatClampNeg)) ≤ w then fc_T_bring_L41 f (nI p) (zov b) w (nI (k + 1)) r17.2 else fc_T_bring_L41 f (nI p) (nI k) (r17.1 - (r17.2 105 (zov (zsoo D (pl p / 2))).toNatClampNeg)) (nI (k + 1)) r17.2) else none) (if (100000000 : Int32) ≤ nI (zsv (D (2 * (pl p / 2)))) then fm_bring_L32 f (nI p) (nI (pl p / 2)) (zov b) w (nI (k + 1)) U0 else if zov b < 0 then fm_bring_L32 f (nI p) (nI (pl p / 2)) (nI k) (nI (zpr t' (wo k) (al k) (if 0 = pl p % 2 then 1 else 0)) - nI (zsv (D (2 * (pl p / 2))))) (nI (k + 1)) U0 else if (nI (zpr t' (wo k) (al k) (if 0 = pl p % 2 then 1 else 0)) - nI (zsv (D (2 * (pl p / 2))))) ≤ w then fm_bring_L32 f (nI p) (nI (pl p / 2)) (zov b) w (nI (k + 1)) U0 else fm_bring_L32 f (nI p) (nI (pl p / 2)) (nI k) (nI (zpr t' (wo k) (al k) (if 0 = pl p % 2 then 1 else 0)) - nI (zsv (D (2 * (pl p / 2))))) (nI (k + 1)) U0) := fun d hd hso => by
      have hdl := hbd _ _ hd
      rw [hso, if_neg (show ¬ zov (some (2 * (pl p / 2))) = -1 by rw [show zov (some (2 * (pl p / 2))) = nI (2 * (pl p / 2)) from rfl, zl_eqm1 (by omega)]; exact id), show zov (some (2 * (pl p / 2))) = nI (2 * (pl p / 2)) from rfl, show nI (2 * (pl p / 2)) % (2 : Int32) = nI 0 from (zl_mod (2 * (pl p / 2)) 2 (by omega) (by omega) (by omega)).trans (by rw [show 2 * (pl p / 2) % 2 = 0 by omega]), x1, Option.bind_some, zl_b (by omega), show decide (2 * (pl p / 2) < 16) = true from decide_eq_true (by omega), if_pos rfl, zl_cl _ (by omega), hd, if_neg (show ¬ (100000000 : Int32) ≤ nI (zsv (some d)) from nI_ge (b := 100000000) (show d < 100000000 by omega) (by omega)), show (nI (zpr t' (wo k) (al k) (if 0 = pl p % 2 then 1 else 0)), V0).2 105 (2 * (pl p / 2)) = nI d by (show V0 105 _ = _; rw [x2 _ _ (by omega) (by omega), (r2 _ (by omega)).1, hd]; rfl)]
      exact htail V0 U0 _ x2 y2
    have go1 : ∀ d, D (2 * (pl p / 2) + 1) = some d → zsoo D (pl p / 2) = some (2 * (pl p / 2) + 1) → zSim (if zov (zsoo D (pl p / 2)) = -1 then fc_T_bring_L41 f (nI p) (zov b) w (nI (k + 1)) V1 else (fc_World_price V1 (nI k) (zov (zsoo D (pl p / 2)) % (2 : Int32)) (nI (pl p % 2))).bind fun r17 => if zb (zov (zsoo D (pl p / 2))) 16 = true then (if zov b < 0 then fc_T_bring_L41 f (nI p) (nI k) (r17.1 - (r17.2 105 (zov (zsoo D (pl p / 2))).toNatClampNeg)) (nI (k + 1)) r17.2 else if (r17.1 - (r17.2 105 (zov (zsoo D (pl p / 2))).toNatClampNeg)) ≤ w then fc_T_bring_L41 f (nI p) (zov b) w (nI (k + 1)) r17.2 else fc_T_bring_L41 f (nI p) (nI k) (r17.1 - (r17.2 105 (zov (zsoo D (pl p / 2))).toNatClampNeg)) (nI (k + 1)) r17.2) else none) (if (100000000 : Int32) ≤ nI (zsv (D (2 * (pl p / 2) + 1))) then fm_bring_L32 f (nI p) (nI (pl p / 2)) (zov b) w (nI (k + 1)) U3 else if zov b < 0 then fm_bring_L32 f (nI p) (nI (pl p / 2)) (nI k) (nI (zpr t' (wo k) (al k) (if 1 = pl p % 2 then 1 else 0)) - nI (zsv (D (2 * (pl p / 2) + 1)))) (nI (k + 1)) U3 else if (nI (zpr t' (wo k) (al k) (if 1 = pl p % 2 then 1 else 0)) - nI (zsv (D (2 * (pl p / 2) + 1)))) ≤ w then fm_bring_L32 f (nI p) (nI (pl p / 2)) (zov b) w (nI (k + 1)) U3 else fm_bring_L32 f (nI p) (nI (pl p / 2)) (nI k) (nI (zpr t' (wo k) (al k) (if 1 = pl p % 2 then 1 else 0)) - nI (zsv (D (2 * (pl p / 2) + 1)))) (nI (k + 1)) U3) := fun d hd hso => by
      have hdl := hbd _ _ hd
      rw [hso, if_neg (show ¬ zov (some (2 * (pl p / 2) + 1)) = -1 by rw [show zov (some (2 * (pl p / 2) + 1)) = nI (2 * (pl p / 2) + 1) from rfl, zl_eqm1 (by omega)]; exact id), show zov (some (2 * (pl p / 2) + 1)) = nI (2 * (pl p / 2) + 1) from rfl, show nI (2 * (pl p / 2) + 1) % (2 : Int32) = nI 1 from (zl_mod (2 * (pl p / 2) + 1) 2 (by omega) (by omega) (by omega)).trans (by rw [show (2 * (pl p / 2) + 1) % 2 = 1 by omega]), x3, Option.bind_some, zl_b (by omega), show decide (2 * (pl p / 2) + 1 < 16) = true from decide_eq_true (by omega), if_pos rfl, zl_cl _ (by omega), hd, if_neg (show ¬ (100000000 : Int32) ≤ nI (zsv (some d)) from nI_ge (b := 100000000) (show d < 100000000 by omega) (by omega)), show (nI (zpr t' (wo k) (al k) (if 1 = pl p % 2 then 1 else 0)), V3).2 105 (2 * (pl p / 2) + 1) = nI d by (show V3 105 _ = _; rw [x4 _ _ (by omega) (by omega), (r2 _ (by omega)).1, hd]; rfl)]
      exact htail V3 U3 _ x4 y4
    have hU3 : ∀ c j, c ≠ 7 → c ≠ 8 → c ≠ 9 → ¬ (c = 0 ∧ (j = 14 ∨ j = 15)) → U3 c j = J c j := fun c j a1 a2 a3 a4 => by rw [y4 c j a1 a2]; exact hU1 c j a1 a2 a3 a4
    cases d1 : D (2 * (pl p / 2)) with
    | none =>
      cases d2 : D (2 * (pl p / 2) + 1) with
      | none =>
        have hso : zsoo D (pl p / 2) = none := by unfold zsoo; rw [d1, d2]
        rw [hso, if_pos (show zov none = -1 from rfl), if_pos (show nI (zsv none) ≤ nI (zsv none) by decide), if_pos (show (100000000 : Int32) ≤ nI (zsv none) by decide)]
        exact hskip U0 hU0
      | some y =>
        have hy := hbd _ _ d2
        have hso : zsoo D (pl p / 2) = some (2 * (pl p / 2) + 1) := by unfold zsoo; rw [d1, d2]
        rw [if_neg (show ¬ nI (zsv none) ≤ nI (zsv (some y)) from nI_ge (show y < 100000000 by omega) (by decide)), ← d2]
        exact go1 y d2 hso
    | some x =>
      have hx := hbd _ _ d1
      cases d2 : D (2 * (pl p / 2) + 1) with
      | none =>
        have hso : zsoo D (pl p / 2) = some (2 * (pl p / 2)) := by unfold zsoo; rw [d1, d2]
        rw [if_pos (show nI (zsv (some x)) ≤ nI (zsv none) from nI_le (show x ≤ 100000000 by omega) (by decide)), ← d1]
        exact go0 x d1 hso
      | some y =>
        have hy := hbd _ _ d2
        by_cases hxy : x ≤ y
        · have hso : zsoo D (pl p / 2) = some (2 * (pl p / 2)) := by unfold zsoo; rw [d1, d2]; exact if_pos hxy
          rw [if_pos (show nI (zsv (some x)) ≤ nI (zsv (some y)) from nI_le hxy (show y < 2 ^ 31 by omega)), ← d1]
          exact go0 x d1 hso
        · have hso : zsoo D (pl p / 2) = some (2 * (pl p / 2) + 1) := by unfold zsoo; rw [d1, d2]; exact if_neg hxy
          rw [if_neg (show ¬ nI (zsv (some x)) ≤ nI (zsv (some y)) from nI_ge (show y < x by omega) (show x < 2 ^ 31 by omega)), ← d2]
          exact go1 y d2 hso
theorem sim_bring {I J : zI} (h : rR I J) (a : Int32) : zSim (fc_T_bring I a) (fm_bring J a) := by
  obtain ⟨⟨⟨ns, nj, cs, ea, eb, tt, nw, kd, bg, sp, mk, eg, np, pl, hr, nt, ly, wo, al, dm, nf, fw, fo, hG, hW, hF, hD⟩, hT, hP⟩, hX⟩ := id h
  obtain ⟨g1, g2, g3⟩ := id hG
  obtain ⟨c1, c2, c3, c4, c5⟩ := id g2
  obtain ⟨m1, m2, m3, m4⟩ := id g3
  have hns := g1.1
  have hnj := g1.2.1

  obtain ⟨⟨t, t1, t2, t3⟩, ⟨t', q1, q2, q3⟩⟩ := id hT
  obtain ⟨f1, f2, f3⟩ := id hF
  have hnp := f1.1
  have hC := mk_cT g1 g2 t1 t2
  have hM := mk_mT g1 g3 t1 t3
  have hW := mk_wT g1 t
  unfold fc_T_bring fm_bring
  rw [c_hasPerson f2.1 hnp a, m_is (a := 3) (c := 3) rfl (by omega) f3.1 (by omega) a]
  simp only [Option.bind_some]
  by_cases ha : ∃ k, k < np ∧ a = nI k
  · simp only [ha, if_true, z10, if_false]
    obtain ⟨p, hp, rfl⟩ := ha
    have lp := (f1.2.1 p hp).1
    obtain ⟨I1, s1, s2, s3, s4⟩ := c_survey hW hC
    rw [s1, Option.bind_some, m_whereIs (show p < 6 by omega), (f3.2.2.1 p hp).1, Option.bind_some, show nI (pl p) / (2 : Int32) = nI (pl p / 2) from zl_div (pl p) 2 (by omega) (by omega) (by omega)]
    exact sim_bring_L h hW hC hM f1 f2 f3 q1 q2 q3 hp nt 0 100 I1 J none 0 (by omega) (by have := f1.2.2.1; omega) (fun c j k1 k2 k3 k4 k5 => s4 c j k1 k2 (by omega) (by omega) (by omega)) s2 s3 (fun _ _ _ _ _ _ => rfl) (fun x hx => by cases hx)
  · simp only [ha, if_true, if_false]
    exact zSim_e (zsim_err h (k := 1) (by omega) (by omega) rfl (by decide))
