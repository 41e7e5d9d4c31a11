/-! the keys of the model, by the table -/
theorem made_eq : k_made = od.map (fun v => nI (kv v)) := by
  have h := mk_map _ _ ma_13
  rw [List.drop_zero, List.take_of_length_le (by rw [od_len]; decide)] at h
  exact h
theorem perm_range : ∀ (n : Nat) (L : List Nat), L.length = n → (∀ i, i < n → i ∈ L) → L.Perm (List.range n)
  | 0, L, h, _ => by
    rw [List.length_eq_zero_iff.mp h]
    exact List.Perm.refl _
  | n + 1, L, h, hc => by
    have hm := hc n (by omega)
    have h1 := List.perm_cons_erase hm
    have h2 : (L.erase n).length = n := by
      rw [List.length_erase_of_mem hm]
      omega
    have h3 := perm_range n (L.erase n) h2 (fun i hi => (List.mem_erase_of_ne (by omega)).mpr (hc i (by omega)))
    rw [List.range_succ]
    exact h1.trans ((h3.cons n).trans (List.perm_append_singleton n _).symm)
theorem or_mem : ∀ (L : List Nat) (a i : Nat), (L.foldl (fun a v => a ||| 2 ^ v) a).testBit i = true → a.testBit i = true ∨ i ∈ L
  | [], a, i, h => Or.inl h
  | v :: L, a, i, h => by
    rcases or_mem L (a ||| 2 ^ v) i h with h1 | h1
    · rw [Nat.testBit_or, Bool.or_eq_true] at h1
      rcases h1 with h1 | h1
      · exact Or.inl h1
      · rw [Nat.testBit_two_pow] at h1
        have : v = i := by simpa using h1
        rw [this]
        exact Or.inr List.mem_cons_self
    · exact Or.inr (List.mem_cons_of_mem _ h1)
theorem od_perm : od.Perm (List.range 7462) := by
  refine perm_range 7462 od od_len (fun i hi => ?_)
  rcases or_mem od 0 i (by rw [od_or, Nat.testBit_two_pow_sub_one]; exact decide_eq_true hi) with h | h
  · rw [Nat.zero_testBit] at h
    cases h
  · exact h
theorem rise_kv : ∀ (n X : Nat), rise n X = true → ∀ i, i < n → X / 2 ^ (22 * i) % 2 ^ 22 < X / 2 ^ (22 * (i + 1)) % 2 ^ 22
  | 0, X, _, i, hi => absurd hi (by omega)
  | n + 1, X, h, i, hi => by
    simp only [rise, Bool.and_eq_true] at h
    by_cases e : i = 0
    · subst e
      have h1 := h.1
      rw [Nat.blt_eq] at h1
      rw [Nat.mul_zero, Nat.pow_zero, Nat.div_one, Nat.zero_add, Nat.mul_one]
      exact h1
    · have := rise_kv n (X / 2 ^ 22) h.2 (i - 1) (by omega)
      rw [Nat.div_div_eq_div_mul, Nat.div_div_eq_div_mul, ← Nat.pow_add, ← Nat.pow_add, show 22 + 22 * (i - 1) = 22 * i by omega, show 22 + 22 * (i - 1 + 1) = 22 * (i + 1) by omega] at this
      exact this
theorem kv_S {i : Nat} (h : i + 1 < 7462) : kv i < kv (i + 1) := rise_kv 7461 kv_big kv_rise i (by omega)
theorem kv_lt {i : Nat} : ∀ {j : Nat}, i < j → j < 7462 → kv i < kv j
  | 0, h, _ => absurd h (by omega)
  | j + 1, h, hj => by
    by_cases e : i = j
    · rw [e]; exact kv_S hj
    · exact Nat.lt_trans (kv_lt (show i < j by omega) (by omega)) (kv_S hj)
theorem kv_22 (i : Nat) : kv i < 2 ^ 22 := Nat.mod_lt _ (by decide)
theorem cnt_range (q : Nat → Bool) (r : Nat) (h1 : ∀ i, i < r → q i = true) : ∀ n, (∀ i, r ≤ i → i < n → q i = false) → (List.range n).countP q = min r n
  | 0, _ => by simp
  | n + 1, h2 => by
    rw [List.range_succ, List.countP_append, cnt_range q r h1 n (fun i hi hi2 => h2 i hi (by omega))]
    by_cases e : n < r
    · simp [List.countP_cons, h1 n e]
      omega
    · simp [List.countP_cons, h2 n (by omega) (by omega)]
      omega
/-- how many keys are less than t, where r of the table are -/
theorem made_cnt {t r : Nat} (ht : t < 2 ^ 31) (hr : r ≤ 7462) (h1 : ∀ i, i < r → kv i < t) (h2 : ∀ i, r ≤ i → i < 7462 → t ≤ kv i) : k_made.countP (fun v => decide (v < nI t)) = r := by
  rw [made_eq, List.countP_map, od_perm.countP_eq, cnt_range _ r (fun i hi => ?_) 7462 (fun i hi hi2 => ?_)]
  · omega
  · exact decide_eq_true (nI_lt (h1 i hi) ht)
  · exact decide_eq_false (nI_nlt (h2 i hi hi2) (Nat.lt_trans (kv_22 i) (by decide)))
theorem kv_le {i j : Nat} (h : i ≤ j) (hj : j < 7462) : kv i ≤ kv j := by
  by_cases e : i = j
  · rw [e]; exact Nat.le_refl _
  · exact Nat.le_of_lt (kv_lt (by omega) hj)
/-- the model's search for a key of the table -/
theorem below_kv {ks : Nat → Int32} (h : iv_keys ks) {v : Nat} (hv : v < 7462) : k_below ks (nI (kv v)) = nI v := by
  rw [below_n h]
  refine congrArg nI ?_
  exact made_cnt (Nat.lt_trans (kv_22 v) (by decide)) (by omega) (fun i hi => kv_lt hi hv) (fun i hi hi2 => kv_le hi hi2)
theorem srt_cN {f : Nat → Int32} (hf : srt f 7462) (k : Int32) {c : Nat} (hc : cN (fun v => decide (v < k)) f 7462 = c) (i : Nat) (hi : i < 7462) : f i < k ↔ i < c := by
  obtain ⟨r, e, hr, g1, g2⟩ := kb_r f k hf 7462 0 7462 (by omega) (by omega) (by omega) (fun i hi => absurd hi (by omega)) (fun i hi hi2 => absurd hi2 (by omega))
  have h1 := cN_split (fun v => decide (v < k)) f r (fun i hi => decide_eq_true (g1 i hi)) 7462 (fun i hi hi2 => decide_eq_false (Int32.not_lt.mpr (g2 i hi hi2)))
  have : r = c := by omega
  subst this
  exact ⟨fun z => Nat.lt_of_not_le (fun w => Int32.not_lt.mpr (g2 i w hi) z), g1 i⟩
/-- the model's keys are the table's -/
theorem ks_at {ks : Nat → Int32} (h : iv_keys ks) {v : Nat} (hv : v < 7462) : ks v = nI (kv v) := by
  obtain ⟨k0, hk0, e0⟩ := h
  rw [e0]
  have hc : ∀ (t r : Nat), t < 2 ^ 31 → r ≤ 7462 → (∀ i, i < r → kv i < t) → (∀ i, r ≤ i → i < 7462 → t ≤ kv i) → cN (fun v => decide (v < nI t)) (k_sort k0) 7462 = r := by
    intro t r ht hr g1 g2
    have h3 := cN_list (nI t) k_made k0 (fun i hi => hk0 i (by rw [k_made_len] at hi; exact hi))
    rw [k_made_len] at h3
    rw [sort_cN, h3]
    exact made_cnt ht hr g1 g2
  have hb := kv_22 v
  have a1 := (srt_cN (sort_srt k0) (nI (kv v)) (hc (kv v) v (by omega) (by omega) (fun i hi => kv_lt hi hv) (fun i hi hi2 => kv_le hi hi2)) v hv)
  have a2 := (srt_cN (sort_srt k0) (nI (kv v + 1)) (hc (kv v + 1) (v + 1) (by omega) (by omega) (fun i hi => Nat.lt_succ_of_le (kv_le (by omega) hv)) (fun i hi hi2 => kv_lt (by omega) hi2)) v hv)
  have b1 : nI (kv v) ≤ k_sort k0 v := Int32.not_lt.mp (fun z => absurd (a1.mp z) (by omega))
  have b2 : k_sort k0 v < nI (kv v + 1) := a2.mpr (by omega)
  generalize k_sort k0 v = x at b1 b2
  have h0 : ¬ x < 0 := fun z => by
    have := Int32.lt_of_le_of_lt b1 z
    exact nI_pos (by omega) this
  obtain ⟨j, hj, e⟩ := nI_of h0
  rw [e] at b1 b2 ⊢
  have c1 := (nI_leI (by omega) hj).mp b1
  have c2 := (nI_ltI hj (by omega)).mp b2
  congr 1
  omega
