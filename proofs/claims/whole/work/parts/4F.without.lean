/-! a set of ranks without one of them -/
theorem spN_split : ∀ (r k m : Nat), spN (r + k) m = spN r (m % 2 ^ r) + 16 ^ r * spN k (m / 2 ^ r)
  | 0, k, m => by
    rw [Nat.zero_add, Nat.pow_zero, Nat.mod_one, Nat.div_one, Nat.pow_zero, Nat.one_mul]
    exact (Nat.zero_add _).symm
  | r + 1, k, m => by
    have ih := spN_split r k (m / 2)
    rw [show r + 1 + k = (r + k) + 1 by omega]
    show m % 2 + 16 * spN (r + k) (m / 2) = (m % 2 ^ (r + 1) % 2 + 16 * spN r (m % 2 ^ (r + 1) / 2)) + 16 ^ (r + 1) * spN k (m / 2 ^ (r + 1))
    have e1 : m % 2 ^ (r + 1) % 2 = m % 2 := Nat.mod_mod_of_dvd m ⟨2 ^ r, by rw [Nat.pow_succ, Nat.mul_comm]⟩
    have e2 : m % 2 ^ (r + 1) / 2 = m / 2 % 2 ^ r := by
      rw [Nat.pow_succ, Nat.mul_comm, Nat.mod_mul_right_div_self]
    have e3 : m / 2 ^ (r + 1) = m / 2 / 2 ^ r := by
      rw [Nat.div_div_eq_div_mul, Nat.pow_succ, Nat.mul_comm]
    rw [ih, e1, e2, e3, Nat.pow_succ, Nat.mul_add, ← Nat.mul_assoc, Nat.mul_comm 16 (16 ^ r), Nat.add_assoc]
theorem spN_lt : ∀ (k m : Nat), spN k m < 16 ^ k
  | 0, m => by decide
  | k + 1, m => by
    have ih := spN_lt k (m / 2)
    show m % 2 + 16 * spN k (m / 2) < 16 ^ (k + 1)
    rw [Nat.pow_succ]
    omega
theorem sp_N (m : Nat) : xN (sp m) = spN 13 m := by
  unfold sp xN
  have h := spN_lt 13 m
  show (Int64.ofNat (spN 13 m)).toBitVec.toNat = _
  rw [Int64.toBitVec_ofNat, BitVec.toNat_ofNat]
  exact Nat.mod_eq_of_lt (Nat.lt_trans h (by decide))
