/-! Sets of ranks: rank r at bit 4 r; thirteen of them; what is found by looking at all 8192 sets -/
def ck_B (p : Nat → Bool) : Nat → Nat → Bool
  | 0, lo => p lo
  | d + 1, lo => ck_B p d lo && ck_B p d (lo + 2 ^ d)
theorem ck_of {p : Nat → Bool} : ∀ (d lo : Nat), ck_B p d lo = true → ∀ i, lo ≤ i → i < lo + 2 ^ d → p i = true
  | 0, lo, h, i, h1, h2 => by
    have e : i = lo := by simp at h2; omega
    subst e
    exact h
  | d + 1, lo, h, i, h1, h2 => by
    simp only [ck_B, Bool.and_eq_true] at h
    rw [Nat.pow_succ] at h2
    by_cases hc : i < lo + 2 ^ d
    · exact ck_of d lo h.1 i h1 hc
    · exact ck_of d (lo + 2 ^ d) h.2 i (by omega) (by omega)
def rk (x : Int64) : Prop := x &&& 300239975158033 = x
def spN : Nat → Nat → Nat
  | 0, _ => 0
  | k + 1, m => m % 2 + 16 * spN k (m / 2)
def sp (m : Nat) : Int64 := Int64.ofNat (spN 13 m)
theorem an_split (i a b c d : Nat) (hb : b < 2 ^ i) (hd : d < 2 ^ i) : (b + 2 ^ i * a) &&& (d + 2 ^ i * c) = (b &&& d) + 2 ^ i * (a &&& c) := by
  apply Nat.eq_of_testBit_eq
  intro j
  have hbd : b &&& d < 2 ^ i := Nat.lt_of_le_of_lt Nat.and_le_left hb
  rw [Nat.testBit_and, Nat.add_comm b, Nat.add_comm d, Nat.add_comm (b &&& d), Nat.testBit_two_pow_mul_add _ hb, Nat.testBit_two_pow_mul_add _ hd, Nat.testBit_two_pow_mul_add _ hbd]
  split
  · rw [Nat.testBit_and]
  · rw [Nat.testBit_and]
theorem sp_of : ∀ (k X : Nat), X &&& spN k (2 ^ k - 1) = X → ∃ m, m < 2 ^ k ∧ X = spN k m
  | 0, X, h => by
    simp [spN] at h
    exact ⟨0, by decide, by simp [spN, h]⟩
  | k + 1, X, h => by
    have e1 : (2 ^ (k + 1) - 1) % 2 = 1 := by rw [Nat.pow_succ]; have := Nat.one_le_two_pow (n := k); omega
    have e2 : (2 ^ (k + 1) - 1) / 2 = 2 ^ k - 1 := by rw [Nat.pow_succ]; have := Nat.one_le_two_pow (n := k); omega
    have hX : X = X % 16 + 2 ^ 4 * (X / 16) := by omega
    rw [spN, e1, e2] at h
    have h2 := an_split 4 (X / 16) (X % 16) (spN k (2 ^ k - 1)) 1 (by omega) (by decide)
    rw [← hX] at h2
    have h3 : (1 + 2 ^ 4 * spN k (2 ^ k - 1)) = 1 + 16 * spN k (2 ^ k - 1) := by omega
    rw [h3, h] at h2
    have h4 : X % 16 &&& 1 ≤ 1 := Nat.and_le_right
    have h5 : X / 16 &&& spN k (2 ^ k - 1) = X / 16 := by omega
    obtain ⟨m, hm, e⟩ := sp_of k (X / 16) h5
    refine ⟨X % 16 + 2 * m, by rw [Nat.pow_succ]; omega, ?_⟩
    have h6 : X % 16 ≤ 1 := by omega
    rw [spN, show (X % 16 + 2 * m) % 2 = X % 16 by omega, show (X % 16 + 2 * m) / 2 = m by omega, ← e]
    omega
theorem i64_nat (x : Int64) : x = Int64.ofNat x.toBitVec.toNat := by
  apply Int64.toBitVec_inj.mp
  apply BitVec.eq_of_toNat_eq
  simp
theorem rk_sp {x : Int64} (h : rk x) : ∃ m, m < 8192 ∧ x = sp m := by
  have h1 : x.toBitVec.toNat &&& spN 13 (2 ^ 13 - 1) = x.toBitVec.toNat := by
    have h2 := congrArg (fun z : Int64 => z.toBitVec.toNat) h
    simp only [Int64.toBitVec_and, BitVec.toNat_and] at h2
    exact h2
  obtain ⟨m, hm, e⟩ := sp_of 13 _ h1
  exact ⟨m, hm, by rw [i64_nat x, e]; rfl⟩
theorem hi_ck : ck_B (fun m => m == 0 || decide (f_highest (sp m) = nI (Nat.log2 m))) 13 0 = true := by decide +kernel
theorem hi_sp {m : Nat} (hm : m < 8192) (h0 : m ≠ 0) : f_highest (sp m) = nI (Nat.log2 m) := by
  have h := ck_of 13 0 hi_ck m (Nat.zero_le _) (by omega)
  simp only [Bool.or_eq_true, beq_iff_eq, decide_eq_true_eq] at h
  rcases h with h | h
  · exact absurd h h0
  · exact h
theorem rk_and {x : Int64} (y : Int64) (h : rk x) : rk (x &&& y) := by
  unfold rk at h ⊢
  rw [Int64.and_assoc, Int64.and_comm y, ← Int64.and_assoc, h]
theorem rk_0 {x : Int64} (h : rk x) (hx : ¬ x = 0) : ∃ j, j ≤ 12 ∧ f_highest x = nI j := by
  obtain ⟨m, hm, rfl⟩ := rk_sp h
  have h0 : m ≠ 0 := fun e => hx (by subst e; decide +kernel)
  refine ⟨Nat.log2 m, ?_, hi_sp hm h0⟩
  have := (Nat.log2_lt h0 (k := 13)).mpr (by omega)
  omega
