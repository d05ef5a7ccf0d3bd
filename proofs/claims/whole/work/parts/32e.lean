/-! all ways weighed -/
theorem zsum_1 {p : Nat → Bool} {g : Nat → Nat} {n : Nat} (h : p n = true) : zsum p g (n + 1) = zsum p g n + g n := by rw [zsum, if_pos h]
theorem zsum_0 {p : Nat → Bool} {g : Nat → Nat} {n : Nat} (h : p n = false) : zsum p g (n + 1) = zsum p g n := by rw [zsum, h]; rfl
/-- the i-th way -/
def zwy (S dm i : Nat) : Nat := S ||| zdq 16 dm i
theorem zwy_lt {S dm i : Nat} (hS : S < 65536) (hd : dm < 65536) : zwy S dm i < 65536 := by
  unfold zwy
  have h1 : zdq 16 dm i < 2 ^ 16 := by
    rw [← zdq_sub 16 dm i]
    exact Nat.lt_of_le_of_lt Nat.and_le_right hd
  exact Nat.or_lt_two_pow (n := 16) hS h1
theorem c_weigh_L {nj nw nf S dm : Nat} {od : Nat → Option Nat} {fw fo : Nat → Nat} (hnj : nj ≤ 16) (hnw : nw ≤ 10) (hnf : nf ≤ 12) (hS : S < 65536) (hd : dm < 65536) (hf2 : ∀ f, f < nf → fw f < nw ∧ fo f < 2) (hod : ∀ w, w < nw → ∀ o, od w = some o → o < 65536) (I0 : zI) (h29 : I0 29 0 = nI dm ∧ I0 29 1 = nI nf) (hfc : ∀ f, f < nf → I0 30 f = nI (fw f) ∧ I0 31 f = nI (fo f)) (h7 : I0 7 0 = nI nw) (h2 : I0 2 2 = nI nj) (h34 : ∀ w, w < nw → I0 34 w = zov (od w)) (N : Nat) (hN : N ≤ 2 ^ zpq 16 dm) (hN64 : N ≤ 64) : ∀ (m fuel : Nat) (V : zI), m ≤ N → m < fuel → (∃ c, V 29 4 = nI c ∧ c + zsum (fun i => zso od fw fo (zwy S dm i) nf) (fun _ => 1) m = zsum (fun i => zso od fw fo (zwy S dm i) nf) (fun _ => 1) N) → (∀ j, j < nj → ∃ c, V 32 j = nI c ∧ c + zsum (fun i => zso od fw fo (zwy S dm i) nf) (fun i => zwy S dm i / 2 ^ j % 2) m = zsum (fun i => zso od fw fo (zwy S dm i) nf) (fun i => zwy S dm i / 2 ^ j % 2) N) → (∀ w, w < nw → ∃ c, V 33 w = nI c ∧ c + zsum (fun i => zso od fw fo (zwy S dm i) nf) (fun i => zev (od w) (zwy S dm i)) m = zsum (fun i => zso od fw fo (zwy S dm i) nf) (fun i => zev (od w) (zwy S dm i)) N) → (∀ c j, c ≠ 32 → c ≠ 33 → ¬ (c = 29 ∧ j = 4) → V c j = I0 c j) → ∀ v4 : Int32, (0 < m → v4 = nI (zdq 16 dm (m - 1))) → ∃ V', fc_Doubts_weigh_L98 fuel (nI S) v4 (nI m) V = some V' ∧ V' 29 4 = nI (zsum (fun i => zso od fw fo (zwy S dm i) nf) (fun _ => 1) N) ∧ (∀ j, j < nj → V' 32 j = nI (zsum (fun i => zso od fw fo (zwy S dm i) nf) (fun i => zwy S dm i / 2 ^ j % 2) N)) ∧ (∀ w, w < nw → V' 33 w = nI (zsum (fun i => zso od fw fo (zwy S dm i) nf) (fun i => zev (od w) (zwy S dm i)) N)) ∧ ∀ c j, c ≠ 32 → c ≠ 33 → ¬ (c = 29 ∧ j = 4) → V' c j = I0 c j := by
  intro m
  induction m with
  | zero =>
    intro fuel V hm hf hc1 hc2 hc3 hV v4 hv
    obtain ⟨g, rfl⟩ : ∃ g, fuel = g + 1 := ⟨fuel - 1, by omega⟩
    rw [fc_Doubts_weigh_L98, if_pos (show nI 0 ≤ 0 by decide)]
    obtain ⟨c, c1, c2⟩ := hc1
    refine ⟨V, rfl, by rw [c1, ← c2]; rfl, fun j hj => ?_, fun w hw => ?_, hV⟩
    · obtain ⟨c, c1, c2⟩ := hc2 j hj
      rw [c1, ← c2]; rfl
    · obtain ⟨c, c1, c2⟩ := hc3 w hw
      rw [c1, ← c2]; rfl
  | succ m ih =>
    intro fuel V hm hf hc1 hc2 hc3 hV v4 hv
    obtain ⟨g, rfl⟩ : ∃ g, fuel = g + 1 := ⟨fuel - 1, by omega⟩
    have hv4 := hv (by omega)
    rw [Nat.add_sub_cancel] at hv4
    subst hv4
    have hx := zwy_lt (i := m) hS hd
    have hso : fc_Doubts_areSo V (nI (zwy S dm m)) = some (if zso od fw fo (zwy S dm m) nf then 1 else 0) := c_areSo_L (I := V) (od := od) hnf hnw (by rw [hV _ _ (by omega) (by omega) (by omega)]; exact h29.2) (fun f hf => ⟨(hf2 f hf).1, (hf2 f hf).2, by rw [hV _ _ (by omega) (by omega) (by omega)]; exact (hfc f hf).1, by rw [hV _ _ (by omega) (by omega) (by omega)]; exact (hfc f hf).2⟩) (fun w hw => ⟨by rw [hV _ _ (by omega) (by omega) (by omega)]; exact h34 w hw, hod w hw⟩) nf 0 100 (by omega) (by omega) rfl
    have hnext : 0 < m → (nI (zdq 16 dm m) - 1) &&& nI dm = nI (zdq 16 dm (m - 1)) := fun h0 => by
      have hp := zdq_pos 16 dm (m - 1) (by omega)
      have hdn := zdq_down 16 dm (m - 1) (by omega)
      rw [show m - 1 + 1 = m by omega] at hp hdn
      rw [zl_sub1 hp, zl_and, hdn]
    rw [fc_Doubts_weigh_L98, if_neg (nI_nle (by omega) (by omega)), zl_or, show S ||| zdq 16 dm m = zwy S dm m from rfl, hso, Option.bind_some, show nI (m + 1) + -1 = nI m from pk_m1 m]
    cases hq : zso od fw fo (zwy S dm m) nf with
    | false =>
      rw [hq] at hso
      rw [if_neg (show ¬ (false = true) by decide), if_pos rfl, hV 29 0 (by omega) (by omega) (by omega), h29.1]
      refine ih g V (by omega) (by omega) ?_ (fun j hj => ?_) (fun w hw => ?_) hV _ hnext
      · obtain ⟨c, c1, c2⟩ := hc1
        rw [zsum_0 (p := fun i => zso od fw fo (zwy S dm i) nf) (n := m) hq] at c2
        exact ⟨c, c1, c2⟩
      · obtain ⟨c, c1, c2⟩ := hc2 j hj
        rw [zsum_0 (p := fun i => zso od fw fo (zwy S dm i) nf) (n := m) hq] at c2
        exact ⟨c, c1, c2⟩
      · obtain ⟨c, c1, c2⟩ := hc3 w hw
        rw [zsum_0 (p := fun i => zso od fw fo (zwy S dm i) nf) (n := m) hq] at c2
        exact ⟨c, c1, c2⟩
    | true =>
      obtain ⟨c, c1, c2⟩ := hc1
      obtain ⟨V1, r1, r2, r3, r4⟩ := c_count1_L (od := od) hnj hnw hx nj 0 100 (zup V 29 4 (nI (c + 1))) (by omega) (by omega) (by rw [zup_o (by omega), hV _ _ (by omega) (by omega) (by omega)]; exact h2) (by rw [zup_o (by omega), hV _ _ (by omega) (by omega) (by omega)]; exact h7) (fun w hw => ⟨by rw [zup_o (by omega), hV _ _ (by omega) (by omega) (by omega)]; exact h34 w hw, hod w hw⟩)
      have r1 : fc_Doubts_countIn V (nI (zwy S dm m)) = some V1 := by
        unfold fc_Doubts_countIn
        rw [c1, nI_1]; exact r1
      have hV1 : ∀ c j, c ≠ 32 → c ≠ 33 → ¬ (c = 29 ∧ j = 4) → V1 c j = I0 c j := fun a j k1 k2 k3 => by rw [r4 a j k2 (by omega), zup_o (by omega)]; exact hV a j k1 k2 k3
      rw [if_pos rfl, if_neg z10, r1, Option.bind_some, hV1 29 0 (by omega) (by omega) (by omega), h29.1]
      rw [zsum_1 (p := fun i => zso od fw fo (zwy S dm i) nf) (n := m) hq] at c2
      refine ih g V1 (by omega) (by omega) ⟨c + 1, by rw [r4 _ _ (by omega) (by omega), zup_y], by omega⟩ (fun j hj => ?_) (fun w hw => ?_) hV1 _ hnext
      · obtain ⟨d, d1, d2⟩ := hc2 j hj
        rw [zsum_1 (p := fun i => zso od fw fo (zwy S dm i) nf) (n := m) hq] at d2
        exact ⟨d + zwy S dm m / 2 ^ j % 2, by rw [r2 j (by omega) hj, zup_o (by omega), d1, zl_add], by omega⟩
      · obtain ⟨d, d1, d2⟩ := hc3 w hw
        rw [zsum_1 (p := fun i => zso od fw fo (zwy S dm i) nf) (n := m) hq] at d2
        exact ⟨d + zev (od w) (zwy S dm m), by rw [r3 w hw, zup_o (by omega), d1, zl_add], by omega⟩
