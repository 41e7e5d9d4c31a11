/-! what is found by looking at all values -/
theorem cnt_at {t r : Nat} (ht : t < 2 ^ 31) (hr : r ≤ 7462) (h1 : r = 0 ∨ kv (r - 1) < t) (h2 : r = 7462 ∨ t ≤ kv r) : k_made.countP (fun v => decide (v < nI t)) = r := by
  refine made_cnt ht hr (fun i hi => ?_) (fun i hi hi2 => ?_)
  · rcases h1 with h1 | h1
    · omega
    · exact Nat.lt_of_le_of_lt (kv_le (by omega) (by omega)) h1
  · rcases h2 with h2 | h2
    · omega
    · exact Nat.le_trans h2 (kv_le hi hi2)
theorem first_n {ks : Nat → Int32} (h : iv_keys ks) {q : Nat} (hq : q ≤ 9) : k_below ks (nI q * 371293) = fi (nI q) := by
  rw [show nI q * 371293 = nI (q * 371293) from pk_mul q 371293, below_n h]
  match q, hq with
  | 0, _ => exact congrArg nI (cnt_at (r := 0) (by decide) (by decide) (by decide +kernel) (by decide +kernel))
  | 1, _ => exact congrArg nI (cnt_at (r := 1277) (by decide) (by decide) (by decide +kernel) (by decide +kernel))
  | 2, _ => exact congrArg nI (cnt_at (r := 4137) (by decide) (by decide) (by decide +kernel) (by decide +kernel))
  | 3, _ => exact congrArg nI (cnt_at (r := 4995) (by decide) (by decide) (by decide +kernel) (by decide +kernel))
  | 4, _ => exact congrArg nI (cnt_at (r := 5853) (by decide) (by decide) (by decide +kernel) (by decide +kernel))
  | 5, _ => exact congrArg nI (cnt_at (r := 5863) (by decide) (by decide) (by decide +kernel) (by decide +kernel))
  | 6, _ => exact congrArg nI (cnt_at (r := 7140) (by decide) (by decide) (by decide +kernel) (by decide +kernel))
  | 7, _ => exact congrArg nI (cnt_at (r := 7296) (by decide) (by decide) (by decide +kernel) (by decide +kernel))
  | 8, _ => exact congrArg nI (cnt_at (r := 7452) (by decide) (by decide) (by decide +kernel) (by decide +kernel))
  | 9, _ => exact congrArg nI (cnt_at (r := 7462) (by decide) (by decide) (by decide +kernel) (by decide +kernel))
set_option maxRecDepth 100000 in
theorem ck_cat : ck_B (fun v => Nat.ble 7462 v || decide (f_cat (nI v) = nI (kv v) / 371293)) 13 0 = true := by decide +kernel
theorem cat_n {v : Nat} (hv : v < 7462) : f_cat (nI v) = nI (kv v) / 371293 := by
  have h := ck_of 13 0 ck_cat v (Nat.zero_le _) (by omega)
  simp only [Bool.or_eq_true, Nat.ble_eq, decide_eq_true_eq] at h
  rcases h with h | h
  · omega
  · exact h
theorem ck_sets : ∀ c, c < 9 → l_SETS.getD (nI c).toNatClampNeg 0 = k_sets (nI c) := by decide +kernel
theorem sets_n {v : Nat} (hv : v < 7462) : l_SETS.getD (f_cat (nI v)).toNatClampNeg 0 = k_sets (nI (kv v) / 371293) := by
  rw [← cat_n hv]
  obtain ⟨j, hj, e⟩ := ca_le (nI v) 8
  rw [show f_cat (nI v) = nI j from e]
  exact ck_sets j (by omega)
