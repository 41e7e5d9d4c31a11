/-! a set of ranks without one of them -/
theorem spN_split : ∀ (r k m : Nat), spN (r + k) m = spN r (m % 2 ^ r) + 16 ^ r * spN k (m / 2 ^ r)
  | 0, k, m => by
    rw [Nat.zero_add, Nat.pow_zero, Nat.mod_one, Nat.div_one, Nat.one_mul]
    exact (Nat.zero_add _).symm
  | r + 1, k, m => by
    have ih := spN_split r k (m / 2)
    rw [show r + 1 + k = (r + k) + 1 by omega]
    show m % 2 + 16 * spN (r + k) (m / 2) = (m % 2 ^ (r + 1) % 2 + 16 * spN r (m % 2 ^ (r + 1) / 2)) + 16 ^ (r + 1) * spN k (m / 2 ^ (r + 1))
    have e1 : m % 2 ^ (r + 1) % 2 = m % 2 := Nat.mod_mod_of_dvd m ⟨2 ^ r, by rw [Nat.pow_succ, Nat.mul_comm]⟩
    have e2 : m % 2 ^ (r + 1) / 2 = m / 2 % 2 ^ r := by
      rw [Nat.pow_succ, Nat.mul_comm, Nat.mod_mul_right_div_self]
    have e3 : m / 2 ^ (r + 1) = m / 2 / 2 ^ r := by
      rw [Nat.div_div_eq_div_mul, Nat.pow_succ, Nat.mul_comm]
    rw [ih, e1, e2, e3, Nat.pow_succ, Nat.mul_add, ← Nat.mul_assoc, Nat.mul_comm 16 (16 ^ r), Nat.add_assoc]
theorem spN_lt : ∀ (k m : Nat), spN k m < 16 ^ k
  | 0, m => by
    show 0 < 1
    decide
  | k + 1, m => by
    have ih := spN_lt k (m / 2)
    show m % 2 + 16 * spN k (m / 2) < 16 ^ (k + 1)
    rw [Nat.pow_succ]
    omega
theorem sp_N (m : Nat) : xN (sp m) = spN 13 m := by
  unfold sp xN
  have h := spN_lt 13 m
  show (BitVec.ofNat 64 (spN 13 m)).toNat = _
  rw [BitVec.toNat_ofNat]
  exact Nat.mod_eq_of_lt (Nat.lt_trans h (by decide))
theorem jl_4r : ∀ r, r < 13 → xN (jl 1 (4 * nI r) - 1) = 2 ^ (4 * r) - 1 := by decide +kernel
theorem pow16 (r : Nat) : 2 ^ (4 * r) = 16 ^ r := by rw [Nat.pow_mul]
theorem wh_n {m r : Nat} (hm : m < 8192) (hr : r < 13) : f_without (sp m) (nI r) = sp (whN m r) := by
  apply xN_inj
  have hB := jl_4r r hr
  have hlt := xN_lt (sp m)
  have e13 : r + (13 - r) = 13 := by omega
  have s1 : spN 13 m = spN r (m % 2 ^ r) + 16 ^ r * spN (13 - r) (m / 2 ^ r) := by
    have := spN_split r (13 - r) m
    rw [e13] at this
    exact this
  have hq : whN m r % 2 ^ r = m % 2 ^ r := by
    unfold whN
    rw [Nat.add_mul_mod_self_left, Nat.mod_mod]
  have hq2 : whN m r / 2 ^ r = m / 2 ^ (r + 1) := by
    unfold whN
    rw [Nat.add_mul_div_left _ _ (Nat.two_pow_pos r), Nat.div_eq_of_lt (Nat.mod_lt _ (Nat.two_pow_pos r)), Nat.zero_add]
  have s2 : spN 13 (whN m r) = spN r (m % 2 ^ r) + 16 ^ r * spN (13 - r) (m / 2 ^ (r + 1)) := by
    have := spN_split r (13 - r) (whN m r)
    rw [e13, hq, hq2] at this
    exact this
  have hlow := spN_lt r (m % 2 ^ r)
  have hd : spN 13 m / 16 / 16 ^ r = spN (13 - r) (m / 2 ^ (r + 1)) := by
    have h1 : spN (13 - r) (m / 2 ^ r) / 16 = spN (12 - r) (m / 2 ^ (r + 1)) := by
      rw [show 13 - r = (12 - r) + 1 by omega]
      show (m / 2 ^ r % 2 + 16 * spN (12 - r) (m / 2 ^ r / 2)) / 16 = _
      rw [Nat.div_div_eq_div_mul, show 2 ^ r * 2 = 2 ^ (r + 1) from (Nat.pow_succ ..).symm, Nat.add_mul_div_left _ _ (by decide), Nat.div_eq_of_lt (Nat.lt_trans (Nat.mod_lt _ (by decide)) (by decide)), Nat.zero_add]
    have h2 : spN (13 - r) (m / 2 ^ (r + 1)) = spN (12 - r) (m / 2 ^ (r + 1)) := by
      have := spN_split (12 - r) 1 (m / 2 ^ (r + 1))
      have hz : m / 2 ^ (r + 1) < 2 ^ (12 - r) := by
        rw [Nat.div_lt_iff_lt_mul (Nat.two_pow_pos _), ← Nat.pow_add, show 12 - r + (r + 1) = 13 by omega]
        exact hm
      rw [show 12 - r + 1 = 13 - r by omega, Nat.mod_eq_of_lt hz, Nat.div_eq_of_lt hz] at this
      rw [this]
      show _ + 16 ^ (12 - r) * (0 % 2 + 16 * spN 0 (0 / 2)) = _
      simp [spN]
    rw [Nat.div_div_eq_div_mul, Nat.mul_comm 16, ← Nat.div_div_eq_div_mul, s1, Nat.add_mul_div_left _ _ (Nat.pow_pos (by decide)), Nat.div_eq_of_lt hlow, Nat.zero_add, h1, h2]
  unfold f_without
  show xN ((sp m &&& (jl 1 (4 * nI r) - 1)) ||| (ju (sp m) 4 &&& ((jl 1 (4 * nI r) - 1) ^^^ -1))) = _
  rw [xN_or, xN_and, xN_and, xN_xor, ju_N (sp m) 4 4 (by decide), hB, sp_N, sp_N, s2, Nat.and_two_pow_sub_one_eq_mod]
  apply Nat.eq_of_testBit_eq
  intro i
  rw [Nat.testBit_or, Nat.testBit_mod_two_pow, Nat.testBit_and, Nat.testBit_xor, Nat.testBit_two_pow_sub_one, show xN (-1) = 2 ^ 64 - 1 from by decide +kernel, Nat.testBit_two_pow_sub_one, Nat.add_comm, ← pow16, Nat.testBit_two_pow_mul_add _ (by rw [pow16]; exact hlow)]
  by_cases h : i < 4 * r
  · rw [if_pos h]
    have h64 : i < 64 := by omega
    simp [h, h64]
    rw [s1, Nat.add_comm, ← pow16, Nat.testBit_two_pow_mul_add _ (by rw [pow16]; exact hlow), if_pos h]
  · rw [if_neg h, ← hd, ← pow16, Nat.testBit_div_two_pow (x := spN 13 m / 16)]
    by_cases h64 : i < 64
    · simp [h, h64]
      rw [show i - 4 * r + 4 * r = i by omega]
    · simp [h, h64]
      rw [show i - 4 * r + 4 * r = i by omega]
      apply Nat.testBit_lt_two_pow
      have := spN_lt 13 m
      exact Nat.lt_of_lt_of_le (Nat.lt_of_le_of_lt (Nat.div_le_self _ _) (Nat.lt_trans this (by decide))) (Nat.pow_le_pow_right (by decide) (show 64 ≤ i by omega))
