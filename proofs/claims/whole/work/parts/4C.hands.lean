/-! which sets are hands -/
theorem jr52_mem (x : Int64) {i : Nat} (hi : i < 64) : mem (jr x 52) i ↔ mem x (if 52 + i < 64 then 52 + i else 63) := by
  unfold mem xN jr
  rw [show (x >>> ((52 : Int32).toInt64 &&& 63)).toBitVec = x.toBitVec.sshiftRight 52 by rw [Int64.toBitVec_shiftRight, BitVec.sshiftRight']; rfl]
  have h : (x.toBitVec.sshiftRight 52).toNat.testBit i = (x.toBitVec.sshiftRight 52).getLsbD i := rfl
  rw [h, BitVec.getLsbD_sshiftRight]
  by_cases h2 : 52 + i < 64
  · rw [if_pos h2, if_pos h2]
    simp [hi]
    rfl
  · rw [if_neg h2, if_neg h2, BitVec.msb_eq_getLsbD_last]
    simp [hi]
    rfl
theorem hi_mask : ∀ c, c < 64 → ((xN (-4503599627370496)).testBit c = decide (52 ≤ c)) := by decide +kernel
theorem hi_iff (x : Int64) : jr x 52 = 0 ↔ x &&& -4503599627370496 = 0 := by
  have h1 : x &&& -4503599627370496 = 0 ↔ ∀ c, mem x c → c < 52 := by
    rw [mem_and0]
    constructor
    · intro h c hc
      apply Nat.lt_of_not_le
      intro h52
      refine h c hc ?_
      unfold mem
      rw [hi_mask c (mem_lt hc)]
      exact decide_eq_true h52
    · intro h c hc hm
      unfold mem at hm
      rw [hi_mask c (mem_lt hc)] at hm
      have := of_decide_eq_true hm
      have := h c hc
      omega
  rw [h1]
  constructor
  · intro h c hc
    apply Nat.lt_of_not_le
    intro h52
    have hlt := mem_lt hc
    have : mem (jr x 52) (c - 52) := (jr52_mem x (by omega)).mpr (by rw [if_pos (by omega), show 52 + (c - 52) = c by omega]; exact hc)
    rw [h] at this
    exact mem_0 _ this
  · intro h
    apply mem_ext
    intro i hi
    constructor
    · intro hm
      have h2 := (jr52_mem x hi).mp hm
      have h3 := h _ h2
      split at h3 <;> omega
    · intro hm
      exact absurd hm (mem_0 i)
theorem kh_bc (x : Int64) : kh_lp x 64 0 = f_bc x := by
  have := kh_is x 64 0
  rw [Nat.zero_add, kh_pop] at this
  rw [bc_is]
  exact this
theorem hand_iff (x : Int64) : k_isHand x = 0 ↔ q_hand x := by
  unfold k_isHand q_hand
  rw [kh_bc]
  by_cases h1 : jr x 52 = 0
  · rw [if_pos h1]
    have h1' := (hi_iff x).mp h1
    by_cases h2 : f_bc x < 5
    · rw [if_pos h2]
      exact ⟨fun _ => Or.inl h2, fun _ => rfl⟩
    · rw [if_neg h2]
      by_cases h3 : 7 < f_bc x
      · rw [if_pos h3]
        exact ⟨fun _ => Or.inr (Or.inl h3), fun _ => rfl⟩
      · rw [if_neg h3]
        exact ⟨fun z => absurd z (by decide), fun z => by
          rcases z with z | z | z
          · exact absurd z h2
          · exact absurd z h3
          · exact absurd h1' z⟩
  · rw [if_neg h1]
    exact ⟨fun _ => Or.inr (Or.inr (fun z => h1 ((hi_iff x).mpr z))), fun _ => rfl⟩
