/-! sets of ranks as numbers below 8192 -/
def n_CHOOSE : List Nat := [0, 1, 2, 3, 4, 5, 6, 7, 8, 9, 10, 11, 12, 0, 0, 1, 3, 6, 10, 15, 21, 28, 36, 45, 55, 66, 0, 0, 0, 1, 4, 10, 20, 35, 56, 84, 120, 165, 220, 0, 0, 0, 0, 1, 5, 15, 35, 70, 126, 210, 330, 495, 0, 0, 0, 0, 0, 1, 6, 21, 56, 126, 252, 462, 792]
def chN (t k : Nat) : Nat := n_CHOOSE.getD ((k - 1) * 13 + t) 0
theorem ch_n : ∀ t, t < 13 → ∀ k, k < 5 → f_choose (nI t) (nI (k + 1)) = nI (chN t (k + 1)) := by decide +kernel
/-- the place of the highest k ranks of a set -/
def plN : Nat → Nat → Nat
  | 0, _ => 0
  | k + 1, m => if m = 0 then 0 else chN (Nat.log2 m) (k + 1) + plN k (m - 2 ^ Nat.log2 m)
/-- the straights that a set of ranks holds -/
def stN (m : Nat) : Nat := (2 * m + m / 4096) &&& ((2 * m + m / 4096) / 2) &&& ((2 * m + m / 4096) / 4) &&& ((2 * m + m / 4096) / 8) &&& ((2 * m + m / 4096) / 16)
/-- a set without rank r, the gap closed -/
def whN (m r : Nat) : Nat := m % 2 ^ r + 2 ^ r * (m / 2 ^ (r + 1))
set_option maxRecDepth 100000 in
theorem clr_ck : ck_B (fun m => m == 0 || decide (sp m &&& (jl 1 (4 * nI (Nat.log2 m)) ^^^ -1) = sp (m - 2 ^ Nat.log2 m))) 13 0 = true := by decide +kernel
set_option maxRecDepth 100000 in
theorem sp0_ck : ck_B (fun m => m == 0 || !decide (sp m = 0)) 13 0 = true := by decide +kernel
set_option maxRecDepth 100000 in
theorem str_ck : ck_B (fun m => decide (f_straights (sp m) = sp (stN m)) && Nat.blt (stN m) 8192) 13 0 = true := by decide +kernel
theorem sp_0 {m : Nat} (hm : m < 8192) : sp m = 0 ↔ m = 0 := by
  have h := ck_of 13 0 sp0_ck m (Nat.zero_le _) (by omega)
  simp only [Bool.or_eq_true, beq_iff_eq, Bool.not_eq_true', decide_eq_false_iff_not] at h
  constructor
  · intro z
    rcases h with h | h
    · exact h
    · exact absurd z h
  · intro z
    rw [z]
    decide +kernel
theorem clr_n {m : Nat} (hm : m < 8192) (h0 : m ≠ 0) : sp m &&& (jl 1 (4 * nI (Nat.log2 m)) ^^^ -1) = sp (m - 2 ^ Nat.log2 m) := by
  have h := ck_of 13 0 clr_ck m (Nat.zero_le _) (by omega)
  simp only [Bool.or_eq_true, beq_iff_eq, decide_eq_true_eq] at h
  rcases h with h | h
  · exact absurd h h0
  · exact h
theorem str_n {m : Nat} (hm : m < 8192) : f_straights (sp m) = sp (stN m) ∧ stN m < 8192 := by
  have h := ck_of 13 0 str_ck m (Nat.zero_le _) (by omega)
  simp only [Bool.and_eq_true, decide_eq_true_eq, Nat.blt_eq] at h
  exact h
theorem log_13 {m : Nat} (hm : m < 8192) (h0 : m ≠ 0) : Nat.log2 m < 13 := (Nat.log2_lt h0 (k := 13)).mpr (by omega)
theorem po_n : ∀ (k m a : Nat), k ≤ 5 → m < 8192 → po_lp k (nI a) (sp m) = nI (a + plN k m)
  | 0, m, a, _, _ => rfl
  | k + 1, m, a, hk, hm => by
    unfold po_lp plN
    by_cases h0 : m = 0
    · rw [if_pos ((sp_0 hm).mpr h0), if_pos h0]
      rfl
    · rw [if_neg (fun z => h0 ((sp_0 hm).mp z)), if_neg h0, hi_sp hm h0, clr_n hm h0, ch_n _ (log_13 hm h0) k (by omega), nI_add, po_n k _ _ (by omega) (Nat.lt_of_le_of_lt (Nat.sub_le _ _) hm), Nat.add_assoc]
theorem place_n {k m : Nat} (hk : k ≤ 5) (hm : m < 8192) : f_placeOf (sp m) k = nI (plN k m) := by
  have := po_n k m 0 hk hm
  rw [Nat.zero_add] at this
  exact this
