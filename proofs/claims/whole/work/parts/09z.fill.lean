/-! Arrays.fill(int[], int), in any world -/
def zfl (I : zI) (i k : Nat) (v : Int32) : zI := zrow I i (fun j => if j < k then v else I i j)
theorem zfl_0 (I : zI) (i : Nat) (v : Int32) : zfl I i 0 v = I := by
  funext a b
  unfold zfl zrow
  by_cases h : a = i
  · subst h; simp
  · simp [h]
theorem zfl_s (I : zI) (i k : Nat) (v : Int32) : zup (zfl I i k v) i k v = zfl I i (k + 1) v := by
  funext a b
  unfold zup zfl zrow
  by_cases h : a = i
  · subst h
    by_cases h2 : b = k
    · subst h2; simp
    · have h3 : (b < k + 1) ↔ (b < k) := by omega
      simp [h2, h3]
  · simp [h]
theorem zfill_fl (I : zI) (i n : Nat) (v : Int32) : zfill I i n v = zfl I i n v := rfl
theorem zb_nI {k n : Nat} (h : k < n) (hn : n < 2 ^ 31) : zb (nI k) n = true := by
  unfold zb
  rw [nI_toInt (by omega)]
  simp
  omega
theorem zfill_loop {sh : List zK} {R : zRf} {I : zI} {i n : Nat} {v : Int32} {n0 : Nat} (hs : sh[i]? = some (.inr (0, n))) (hn : n ≤ 1000) : ∀ (m k : Nat), k + m = n → zG 1 ym_28 0 0 none (sh, R, zfill I i n v) n0 5 [(2, .inl (nI k)), (3, .inl (nI n)), (0, .inr (.inr (some i))), (1, .inl v)] [] (sh, R, zfl I i k v) 0 0 := by
  intro m
  induction m with
  | zero =>
    intro k hk
    have hk2 : k = n := by omega
    subst hk2
    refine zg_iload_n dd_28_5 rfl (j := 0) rfl ?_
    refine zg_iload_n dd_28_6 rfl (j := 1) rfl ?_
    refine zg_icmp_ge (tgt := 20) dd_28_7 (by decide) (fun h1 => ?_) (fun h1 => absurd (nI_le (Nat.le_refl k) (by omega)) h1)
    exact zg_vret dd_28_20 rfl
  | succ m ih =>
    intro k hk
    refine zg_iload_n dd_28_5 rfl (j := 0) rfl ?_
    refine zg_iload_n dd_28_6 rfl (j := 1) rfl ?_
    refine zg_icmp_ge (tgt := 20) dd_28_7 (by decide) (fun h1 => absurd h1 (nI_ge (by omega) (by omega))) (fun h1 => ?_)
    refine zg_aload_n dd_28_10 rfl (j := 2) rfl ?_
    refine zg_iload_n dd_28_11 rfl (j := 0) rfl ?_
    refine zg_iload_n dd_28_12 rfl (j := 3) rfl ?_
    refine zg_iast dd_28_13 hs (zb_nI (by omega) (by omega)) ?_
    rw [nI_clamp (by omega), zfl_s]
    refine zg_iinc dd_28_14 (j := 0) rfl (v := nI (k + 1)) (by rw [← nI_1]; rfl) (Nat.le_of_ble_eq_true rfl) rfl ?_
    refine zg_goto (tgt := 5) dd_28_17 (by decide) ?_
    exact ih (k + 1) (by omega)
theorem mt_fill {sh : List zK} {R : zRf} {I : zI} {i n : Nat} {v : Int32} (hs : sh[i]? = some (.inr (0, n))) (hn : n ≤ 1000) : zM 1 ym_28 [.inr (.inr (some i)), .inl v] (sh, R, I) none (sh, R, zfill I i n v) 0 0 := by
  refine zM_of (by decide) (Nat.le_of_ble_eq_true rfl) (lv := [(0, .inr (.inr (some i))), (1, .inl v)]) rfl ?_
  refine zg_iconst dd_28_0 (v := nI 0) (by decide) ?_
  refine zg_istore_n dd_28_1 rfl (Nat.le_of_ble_eq_true rfl) (lv' := [(2, .inl (nI 0)), (0, .inr (.inr (some i))), (1, .inl v)]) rfl ?_
  refine zg_aload_n dd_28_2 rfl (j := 1) rfl ?_
  refine zg_alen dd_28_3 hs (v := nI n) rfl ?_
  refine zg_istore_n dd_28_4 rfl (Nat.le_of_ble_eq_true rfl) (lv' := [(3, .inl (nI n)), (2, .inl (nI 0)), (0, .inr (.inr (some i))), (1, .inl v)]) rfl ?_
  refine zg_sub [1, 0, 2, 3] rfl ?_
  have h := zfill_loop (sh := sh) (R := R) (I := I) (v := v) (n0 := sh.length) hs hn n 0 (by omega)
  rw [zfl_0] at h
  exact h
