/-! the class's value of a set is what the set is worth -/
theorem spN_bit : ∀ (k m c : Nat), (spN k m).testBit c = (decide (c % 4 = 0 ∧ c / 4 < k) && m.testBit (c / 4))
  | 0, m, c => by
    simp [spN]
  | k + 1, m, c => by
    have ih := spN_bit k (m / 2) (c - 4)
    have e : spN (k + 1) m = 2 ^ 4 * spN k (m / 2) + m % 2 := by
      show m % 2 + 16 * spN k (m / 2) = _
      omega
    rw [e, Nat.testBit_two_pow_mul_add _ (by omega)]
    by_cases h : c < 4
    · rw [if_pos h, show c / 4 = 0 by omega, Nat.testBit_zero]
      by_cases h0 : c = 0
      · subst h0
        simp
      · have h1 : (m % 2).testBit c = false := Nat.testBit_lt_two_pow (Nat.lt_of_lt_of_le (show m % 2 < 2 by omega) (show 2 ^ 1 ≤ 2 ^ c from Nat.pow_le_pow_right (by decide) (by omega)))
        rw [h1, decide_eq_false (by omega)]
        rfl
    · rw [if_neg h, ih, show c / 4 = (c - 4) / 4 + 1 by omega, Nat.testBit_succ]
      have e2 : (c % 4 = 0 ∧ (c - 4) / 4 + 1 < k + 1) ↔ ((c - 4) % 4 = 0 ∧ (c - 4) / 4 < k) := by omega
      simp only [e2]
theorem sp_mem (m c : Nat) : mem (sp m) c ↔ c % 4 = 0 ∧ c / 4 < 13 ∧ m.testBit (c / 4) = true := by
  unfold mem
  rw [sp_N, spN_bit, Bool.and_eq_true, decide_eq_true_iff, and_assoc]
theorem sp_sN (c : Nat → Nat) (j i : Nat) : mem (sp (sN c j 13)) i ↔ i % 4 = 0 ∧ i / 4 < 13 ∧ j ≤ c (i / 4) := by
  rw [sp_mem, sN_bit, decide_eq_true_iff]
  exact ⟨fun h => ⟨h.1, h.2.1, h.2.2.2⟩, fun h => ⟨h.1, h.2.1, h.2.1, h.2.2⟩⟩
theorem mask_bit : ∀ c, c < 64 → ((xN 300239975158033).testBit c = decide (c % 4 = 0 ∧ c / 4 < 13)) := by decide +kernel
theorem ju_N4 (x : Int64) : ∀ j, j < 4 → xN (ju x (nI j)) = xN x / 2 ^ j := by
  intro j hj
  obtain h | h | h | h : j = 0 ∨ j = 1 ∨ j = 2 ∨ j = 3 := by omega
  · subst h; exact ju_N x _ 0 (by decide)
  · subst h; exact ju_N x _ 1 (by decide)
  · subst h; exact ju_N x _ 2 (by decide)
  · subst h; exact ju_N x _ 3 (by decide)
/-- the ranks of a suit -/
theorem suit_sp (x : Int64) {j : Nat} (hj : j < 4) : ju x (nI j) &&& 300239975158033 = sp (sN (u1 x j) 1 13) := by
  apply mem_ext
  intro c hc
  rw [mem_and, sp_sN]
  have h1 : mem 300239975158033 c ↔ c % 4 = 0 ∧ c / 4 < 13 := by
    unfold mem
    rw [mask_bit c hc, decide_eq_true_iff]
  have h2 : mem (ju x (nI j)) c ↔ mem x (c + j) := by
    unfold mem
    rw [ju_N4 x j hj, Nat.testBit_div_two_pow]
  rw [h1, h2]
  constructor
  · intro ⟨a, b, d⟩
    refine ⟨b, d, ?_⟩
    rw [(u1_mem x j (c / 4)).mpr (by rw [show 4 * (c / 4) + j = c + j by omega]; exact a)]
    exact Nat.le_refl _
  · intro ⟨b, d, a⟩
    refine ⟨?_, b, d⟩
    have h3 := u1_lt x j (c / 4)
    have h4 := (u1_mem x j (c / 4)).mp (by omega)
    rw [show 4 * (c / 4) + j = c + j by omega] at h4
    exact h4
theorem suit_0 (x : Int64) : x &&& 300239975158033 = sp (sN (u1 x 0) 1 13) := by
  have e : ju x (nI 0) = x := xN_inj (by rw [ju_N4 x 0 (by decide), Nat.pow_zero, Nat.div_one])
  rw [← suit_sp x (j := 0) (by decide), e]
theorem suit_pop (x : Int64) (j : Nat) : f_bc (sp (sN (u1 x j) 1 13)) = nI (cS (u1 x j) 13) := by
  have hin : in52 (sp (sN (u1 x j) 1 13)) := by
    intro c h
    rw [sp_sN] at h
    omega
  rw [bc_is, pop_cS hin]
  congr 1
  apply cS_cong
  intro r hr
  have h0 := u1_mem (sp (sN (u1 x j) 1 13)) 0 r
  have h1 := u1_mem (sp (sN (u1 x j) 1 13)) 1 r
  have h2 := u1_mem (sp (sN (u1 x j) 1 13)) 2 r
  have h3 := u1_mem (sp (sN (u1 x j) 1 13)) 3 r
  rw [sp_sN] at h0 h1 h2 h3
  have l0 := u1_lt (sp (sN (u1 x j) 1 13)) 0 r
  have l1 := u1_lt (sp (sN (u1 x j) 1 13)) 1 r
  have l2 := u1_lt (sp (sN (u1 x j) 1 13)) 2 r
  have l3 := u1_lt (sp (sN (u1 x j) 1 13)) 3 r
  have l := u1_lt x j r
  unfold cR
  rw [show (4 * r + 0) / 4 = r by omega] at h0
  generalize u1 (sp (sN (u1 x j) 1 13)) 0 r = a0 at *
  generalize u1 (sp (sN (u1 x j) 1 13)) 1 r = a1 at *
  generalize u1 (sp (sN (u1 x j) 1 13)) 2 r = a2 at *
  generalize u1 (sp (sN (u1 x j) 1 13)) 3 r = a3 at *
  generalize u1 x j r = b at *
  have e1 : ¬ a1 = 1 := fun z => absurd (h1.mp z).1 (by omega)
  have e2 : ¬ a2 = 1 := fun z => absurd (h2.mp z).1 (by omega)
  have e3 : ¬ a3 = 1 := fun z => absurd (h3.mp z).1 (by omega)
  by_cases e0 : a0 = 1
  · have := (h0.mp e0).2.2
    omega
  · have : ¬ 1 ≤ b := fun z => e0 (h0.mpr ⟨by omega, hr, z⟩)
    omega
theorem sets_O (x : Int64) : sp (sN (u1 x 0) 1 13) ||| sp (sN (u1 x 1) 1 13) ||| sp (sN (u1 x 2) 1 13) ||| sp (sN (u1 x 3) 1 13) = sp (sN (cR x) 1 13) := by
  apply mem_ext
  intro c _
  simp only [mem_or, sp_sN]
  unfold cR
  have l0 := u1_lt x 0 (c / 4)
  have l1 := u1_lt x 1 (c / 4)
  have l2 := u1_lt x 2 (c / 4)
  have l3 := u1_lt x 3 (c / 4)
  omega
theorem sets_T (x : Int64) : sp (sN (u1 x 0) 1 13) &&& sp (sN (u1 x 1) 1 13) ||| sp (sN (u1 x 2) 1 13) &&& sp (sN (u1 x 3) 1 13) ||| (sp (sN (u1 x 0) 1 13) ||| sp (sN (u1 x 1) 1 13)) &&& (sp (sN (u1 x 2) 1 13) ||| sp (sN (u1 x 3) 1 13)) = sp (sN (cR x) 2 13) := by
  apply mem_ext
  intro c _
  simp only [mem_or, mem_and, sp_sN]
  unfold cR
  have l0 := u1_lt x 0 (c / 4)
  have l1 := u1_lt x 1 (c / 4)
  have l2 := u1_lt x 2 (c / 4)
  have l3 := u1_lt x 3 (c / 4)
  omega
theorem sets_H (x : Int64) : sp (sN (u1 x 0) 1 13) &&& sp (sN (u1 x 1) 1 13) &&& (sp (sN (u1 x 2) 1 13) ||| sp (sN (u1 x 3) 1 13)) ||| sp (sN (u1 x 2) 1 13) &&& sp (sN (u1 x 3) 1 13) &&& (sp (sN (u1 x 0) 1 13) ||| sp (sN (u1 x 1) 1 13)) = sp (sN (cR x) 3 13) := by
  apply mem_ext
  intro c _
  simp only [mem_or, mem_and, sp_sN]
  unfold cR
  have l0 := u1_lt x 0 (c / 4)
  have l1 := u1_lt x 1 (c / 4)
  have l2 := u1_lt x 2 (c / 4)
  have l3 := u1_lt x 3 (c / 4)
  omega
theorem sets_F (x : Int64) : sp (sN (u1 x 0) 1 13) &&& sp (sN (u1 x 1) 1 13) &&& sp (sN (u1 x 2) 1 13) &&& sp (sN (u1 x 3) 1 13) = sp (sN (cR x) 4 13) := by
  apply mem_ext
  intro c _
  simp only [mem_and, sp_sN]
  unfold cR
  have l0 := u1_lt x 0 (c / 4)
  have l1 := u1_lt x 1 (c / 4)
  have l2 := u1_lt x 2 (c / 4)
  have l3 := u1_lt x 3 (c / 4)
  omega
theorem suited_n (x : Int64) (h7 : cS (u1 x 0) 13 + cS (u1 x 1) 13 + cS (u1 x 2) 13 + cS (u1 x 3) 13 ≤ 7) : (f_suited x = 0 ∧ ∀ j, j < 4 → cS (u1 x j) 13 < 5) ∨ ∃ j, j < 4 ∧ f_suited x = sp (sN (u1 x j) 1 13) ∧ 5 ≤ cS (u1 x j) 13 ∧ ∀ i, i < 4 → i ≠ j → cS (u1 x i) 13 < 5 := by
  have e0 : ju x (nI (4 - (3 + 1))) &&& 300239975158033 = sp (sN (u1 x 0) 1 13) := suit_sp x (j := 0) (by decide)
  have e1 : ju x (nI (4 - (2 + 1))) &&& 300239975158033 = sp (sN (u1 x 1) 1 13) := suit_sp x (j := 1) (by decide)
  have e2 : ju x (nI (4 - (1 + 1))) &&& 300239975158033 = sp (sN (u1 x 2) 1 13) := suit_sp x (j := 2) (by decide)
  have e3 : ju x (nI (4 - (0 + 1))) &&& 300239975158033 = sp (sN (u1 x 3) 1 13) := suit_sp x (j := 3) (by decide)
  have lt5 : ∀ n, n ≤ 7 → (nI n < 5 ↔ n < 5) := fun n hn => nI_ltI (b := 5) (by omega) (by decide)
  have e : f_suited x = if nI (cS (u1 x 0) 13) < 5 then (if nI (cS (u1 x 1) 13) < 5 then (if nI (cS (u1 x 2) 13) < 5 then (if nI (cS (u1 x 3) 13) < 5 then 0 else sp (sN (u1 x 3) 1 13)) else sp (sN (u1 x 2) 1 13)) else sp (sN (u1 x 1) 1 13)) else sp (sN (u1 x 0) 1 13) := by
    unfold f_suited
    simp only [s_lp]
    rw [e0, e1, e2, e3, suit_pop, suit_pop, suit_pop, suit_pop]
  have q0 := lt5 (cS (u1 x 0) 13) (by omega)
  have q1 := lt5 (cS (u1 x 1) 13) (by omega)
  have q2 := lt5 (cS (u1 x 2) 13) (by omega)
  have q3 := lt5 (cS (u1 x 3) 13) (by omega)
  have fin : ∀ P : Nat → Prop, P 0 → P 1 → P 2 → P 3 → ∀ i, i < 4 → P i := by
    intro P p0 p1 p2 p3 i hi
    obtain h | h | h | h : i = 0 ∨ i = 1 ∨ i = 2 ∨ i = 3 := by omega
    · rw [h]; exact p0
    · rw [h]; exact p1
    · rw [h]; exact p2
    · rw [h]; exact p3
  rw [e]
  by_cases h0 : cS (u1 x 0) 13 < 5
  · rw [if_pos (q0.mpr h0)]
    by_cases h1 : cS (u1 x 1) 13 < 5
    · rw [if_pos (q1.mpr h1)]
      by_cases h2 : cS (u1 x 2) 13 < 5
      · rw [if_pos (q2.mpr h2)]
        by_cases h3 : cS (u1 x 3) 13 < 5
        · rw [if_pos (q3.mpr h3)]
          exact Or.inl ⟨rfl, fin (fun j => cS (u1 x j) 13 < 5) h0 h1 h2 h3⟩
        · rw [if_neg (fun z => h3 (q3.mp z))]
          exact Or.inr ⟨3, by decide, rfl, by omega, fin (fun i => i ≠ 3 → cS (u1 x i) 13 < 5) (by omega) (by omega) (by omega) (by omega)⟩
      · rw [if_neg (fun z => h2 (q2.mp z))]
        exact Or.inr ⟨2, by decide, rfl, by omega, fin (fun i => i ≠ 2 → cS (u1 x i) 13 < 5) (by omega) (by omega) (by omega) (by omega)⟩
    · rw [if_neg (fun z => h1 (q1.mp z))]
      exact Or.inr ⟨1, by decide, rfl, by omega, fin (fun i => i ≠ 1 → cS (u1 x i) 13 < 5) (by omega) (by omega) (by omega) (by omega)⟩
  · rw [if_neg (fun z => h0 (q0.mp z))]
    exact Or.inr ⟨0, by decide, rfl, by omega, fin (fun i => i ≠ 0 → cS (u1 x i) 13 < 5) (by omega) (by omega) (by omega) (by omega)⟩
theorem v1_is (x s : Int64) : v_1 s (x &&& 300239975158033) (ju x 1 &&& 300239975158033) (ju x 2 &&& 300239975158033) (ju x 3 &&& 300239975158033) = v_2 s (sp (sN (cR x) 1 13)) (sp (sN (cR x) 2 13)) (sp (sN (cR x) 3 13)) (sp (sN (cR x) 4 13)) := by
  have e0 := suit_0 x
  have e1 : ju x 1 &&& 300239975158033 = sp (sN (u1 x 1) 1 13) := suit_sp x (j := 1) (by decide)
  have e2 : ju x 2 &&& 300239975158033 = sp (sN (u1 x 2) 1 13) := suit_sp x (j := 2) (by decide)
  have e3 : ju x 3 &&& 300239975158033 = sp (sN (u1 x 3) 1 13) := suit_sp x (j := 3) (by decide)
  unfold v_1
  rw [e0, e1, e2, e3, sets_O, sets_T, sets_H, sets_F]
theorem value_V {x : Int64} (hx : in52 x) (hp : pop x = 5 ∨ pop x = 6 ∨ pop x = 7) : f_valueOf x = nI (V x) := by
  have hl := fun j => sN_lt (cR x) j 13
  have hs := pop_cS hx
  rw [cS_suits] at hs
  obtain ⟨g1, g2, -⟩ := gc_x hx hp
  unfold f_valueOf
  rw [v1_is]
  rcases suited_n x (by omega) with ⟨e, h5⟩ | ⟨j, hj, e, h5, hi⟩
  · rw [e, GN_n (hl 1) (hl 2) (hl 3) (hl 4)]
    congr 1
    show gc (cR x) = V x
    have f : ∀ j, j < 4 → fl x j = 0 := fun j hj => if_neg (by have := h5 j hj; omega)
    unfold V
    rw [f 0 (by decide), f 1 (by decide), f 2 (by decide), f 3 (by decide)]
    omega
  · have hd := cD_suit x hj 13
    have gg := g2 (by omega)
    have h0 : sN (u1 x j) 1 13 ≠ 0 := by
      intro z
      obtain ⟨r, hr, h1⟩ := cS_ex (c := u1 x j) (k := 13) (by omega)
      have hb := sN_bit (u1 x j) 1 r 13
      rw [z, Nat.zero_testBit, decide_eq_true ⟨hr, h1⟩] at hb
      cases hb
    rw [e, FL_n (sN_lt _ _ 13) (hl 1) (hl 2) (hl 3) (hl 4) h0 gg.1]
    congr 1
    have fj : fl x j = FLN (sN (u1 x j) 1 13) := if_pos h5
    have f : ∀ i, i < 4 → i ≠ j → fl x i = 0 := fun i hi2 hne => if_neg (by have := hi i hi2 hne; omega)
    have hb := (fl_ok (u1_lt x j) h5).1
    rw [← fj] at hb ⊢
    have hv := fl_V x hj
    rcases V_is x with h | ⟨i, hi2, h⟩
    · omega
    · by_cases hij : i = j
      · rw [h, hij]
      · rw [f i hi2 hij] at h
        omega
