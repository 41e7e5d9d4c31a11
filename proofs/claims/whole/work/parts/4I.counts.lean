/-! counts of ranks -/
def sN (c : Nat → Nat) (j : Nat) : Nat → Nat
  | 0 => 0
  | k + 1 => sN c j k + (if j ≤ c k then 2 ^ k else 0)
def cS (c : Nat → Nat) : Nat → Nat
  | 0 => 0
  | k + 1 => cS c k + c k
def cD (c : Nat → Nat) : Nat → Nat
  | 0 => 0
  | k + 1 => cD c k + (if 1 ≤ c k then 1 else 0)
theorem sN_lt (c : Nat → Nat) (j : Nat) : ∀ k, sN c j k < 2 ^ k
  | 0 => by
    show 0 < 1
    decide
  | k + 1 => by
    have ih := sN_lt c j k
    unfold sN
    rw [Nat.pow_succ]
    split <;> omega
theorem sN_bit (c : Nat → Nat) (j r : Nat) : ∀ k, (sN c j k).testBit r = decide (r < k ∧ j ≤ c r)
  | 0 => by
    unfold sN
    simp
  | k + 1 => by
    have ih := sN_bit c j r k
    have hl := sN_lt c j k
    unfold sN
    by_cases h : j ≤ c k
    · rw [if_pos h, Nat.add_comm, show 2 ^ k = 2 ^ k * 1 from (Nat.mul_one _).symm, Nat.testBit_two_pow_mul_add _ hl, ih]
      by_cases h2 : r < k
      · rw [if_pos h2]
        have : r < k + 1 := by omega
        simp [h2, this]
      · rw [if_neg h2]
        by_cases h3 : r = k
        · subst h3
          simp [h]
        · have h4 : ¬ r < k + 1 := by omega
          have h5 : Nat.testBit 1 (r - k) = false := Nat.testBit_lt_two_pow (Nat.one_lt_two_pow (by omega))
          rw [h5]
          simp [h4]
    · rw [if_neg h, Nat.add_zero, ih]
      by_cases h3 : r = k
      · subst h3
        simp [h]
      · by_cases h2 : r < k
        · have : r < k + 1 := by omega
          simp [h2, this]
        · have : ¬ r < k + 1 := by omega
          simp [h2, this]
theorem cS_z {c : Nat → Nat} : ∀ {k}, cS c k = 0 → (∀ j, 1 ≤ j → sN c j k = 0) ∧ cD c k = 0
  | 0, _ => ⟨fun _ _ => rfl, rfl⟩
  | k + 1, h => by
    unfold cS at h
    have ih := cS_z (c := c) (k := k) (by omega)
    have h0 : c k = 0 := by omega
    refine ⟨fun j hj => ?_, ?_⟩
    · unfold sN
      rw [ih.1 j hj, h0, if_neg (by omega)]
    · unfold cD
      rw [ih.2, h0]
      rfl
theorem cS_4 {c : Nat → Nat} : ∀ {k}, (∀ r, r < k → c r ≤ 4) → cS c k ≤ 4 * k
  | 0, _ => Nat.le_refl _
  | k + 1, h => by
    have ih := cS_4 (c := c) (k := k) (fun r hr => h r (by omega))
    have := h k (by omega)
    unfold cS
    omega
theorem en_ok (N : Nat) (c : Nat → Nat) : ∀ (k n d O T H F : Nat), en N k n d O T H F = true → cS c k = n → (∀ r, r < k → c r ≤ 4) → lf N (d + cD c k) (O + sN c 1 k) (T + sN c 2 k) (H + sN c 3 k) (F + sN c 4 k) = true
  | 0, n, d, O, T, H, F, h, hn, _ => by
    have hn : n = 0 := hn.symm
    subst hn
    exact h
  | k + 1, n, d, O, T, H, F, h, hn, hc => by
    by_cases h0 : n = 0
    · obtain ⟨z1, z2⟩ := cS_z (hn.trans h0)
      rw [z1 1 (by decide), z1 2 (by decide), z1 3 (by decide), z1 4 (by decide), z2]
      subst h0
      exact h
    · have h4 := cS_4 hc
      rw [hn] at h4
      have hk := hc k (by omega)
      have hn' : cS c k + c k = n := hn
      have hs := (en_S N k n d O T H F h0).mp h h4
      have ih := fun n d O T H F h hn => en_ok N c k n d O T H F h hn (fun r hr => hc r (by omega))
      have u : ∀ j, sN c j (k + 1) = sN c j k + (if j ≤ c k then 2 ^ k else 0) := fun _ => rfl
      have ud : cD c (k + 1) = cD c k + (if 1 ≤ c k then 1 else 0) := rfl
      rw [u, u, u, u, ud]
      have ac : ∀ a b d : Nat, a + (b + d) = a + d + b := fun a b d => by omega
      obtain hk | hk | hk | hk | hk : c k = 0 ∨ c k = 1 ∨ c k = 2 ∨ c k = 3 ∨ c k = 4 := by omega
      · rw [hk]
        exact ih _ _ _ _ _ _ hs.1 (by omega)
      · rw [hk]
        have := ih _ _ _ _ _ _ hs.2.1 (by omega)
        rw [← ac, ← ac] at this
        exact this
      · rw [hk]
        have := ih _ _ _ _ _ _ (hs.2.2 (by omega)).1 (by omega)
        rw [← ac, ← ac, ← ac] at this
        exact this
      · rw [hk]
        have := ih _ _ _ _ _ _ ((hs.2.2 (by omega)).2 (by omega)).1 (by omega)
        rw [← ac, ← ac, ← ac, ← ac] at this
        exact this
      · rw [hk]
        have := ih _ _ _ _ _ _ (((hs.2.2 (by omega)).2 (by omega)).2 (by omega)) (by omega)
        rw [← ac, ← ac, ← ac, ← ac, ← ac] at this
        exact this
/-- the value of the counts c -/
def gc (c : Nat → Nat) : Nat := GN (sN c 1 13) (sN c 2 13) (sN c 3 13) (sN c 4 13)
theorem mo_ok (g O T H F : Nat) : ∀ (k : Nat) (a : Bool), mo g O T H F k a = true → (∀ r, r < k → bt O (2 ^ r) = true → er O T H F (2 ^ r) ≤ g) ∧ (a = true ∨ ∃ r, r < k ∧ bt O (2 ^ r) = true ∧ er O T H F (2 ^ r) = g)
  | 0, a, h => ⟨fun r hr => absurd hr (by omega), Or.inl h⟩
  | k + 1, a, h => by
    have e : mo g O T H F (k + 1) a = fo (Nat.pow 2 k) (fun p => bif bt O p then fo (er O T H F p) (fun e => bif Nat.ble e g then mo g O T H F k (bif Nat.beq e g then true else a) else false) else mo g O T H F k a) := rfl
    rw [e, fo_eq, fo_eq] at h
    have h : (bif bt O (2 ^ k) then bif Nat.ble (er O T H F (2 ^ k)) g then mo g O T H F k (bif Nat.beq (er O T H F (2 ^ k)) g then true else a) else false else mo g O T H F k a) = true := h
    cases hb : bt O (2 ^ k) with
    | false =>
      rw [hb] at h
      obtain ⟨i1, i2⟩ := mo_ok g O T H F k a h
      refine ⟨fun r hr hr2 => ?_, i2.imp id (fun ⟨r, h1, h2⟩ => ⟨r, by omega, h2⟩)⟩
      by_cases hrk : r = k
      · rw [hrk, hb] at hr2
        exact absurd hr2 (by decide)
      · exact i1 r (by omega) hr2
    | true =>
      rw [hb] at h
      have h : (bif Nat.ble (er O T H F (2 ^ k)) g then mo g O T H F k (bif Nat.beq (er O T H F (2 ^ k)) g then true else a) else false) = true := h
      cases hl : Nat.ble (er O T H F (2 ^ k)) g with
      | false =>
        rw [hl] at h
        exact Bool.noConfusion h
      | true =>
        rw [hl] at h
        obtain ⟨i1, i2⟩ := mo_ok g O T H F k _ h
        refine ⟨fun r hr hr2 => ?_, ?_⟩
        · by_cases hrk : r = k
          · rw [hrk]
            exact Nat.ble_eq.mp hl
          · exact i1 r (by omega) hr2
        · rcases i2 with i2 | ⟨r, h1, h2⟩
          · cases hq : Nat.beq (er O T H F (2 ^ k)) g with
            | true => exact Or.inr ⟨k, by omega, hb, Nat.eq_of_beq_eq_true hq⟩
            | false =>
              rw [hq] at i2
              exact Or.inl i2
          · exact Or.inr ⟨r, by omega, h2⟩
theorem bt_b (S r : Nat) : bt S (2 ^ r) = S.testBit r := by
  unfold bt
  rw [Nat.testBit_eq_decide_div_mod_eq]
  show Nat.beq (S / 2 ^ r % 2) 1 = _
  by_cases h : S / 2 ^ r % 2 = 1
  · rw [h]
    rfl
  · rw [decide_eq_false h]
    exact Bool.eq_false_iff.mpr (fun y => h (Nat.eq_of_beq_eq_true y))
/-- counts with one less of rank r -/
def dc (c : Nat → Nat) (r : Nat) : Nat → Nat := fun i => if i = r then c i - 1 else c i
theorem sN_dc (c : Nat → Nat) (r j : Nat) (h1 : 1 ≤ c r) (hj : 1 ≤ j) : ∀ k, sN (dc c r) j k + (if r < k ∧ c r = j then 2 ^ r else 0) = sN c j k
  | 0 => by simp [sN]
  | k + 1 => by
    have ih := sN_dc c r j h1 hj k
    have e : sN (dc c r) j (k + 1) = sN (dc c r) j k + (if j ≤ dc c r k then 2 ^ k else 0) := rfl
    have e2 : sN c j (k + 1) = sN c j k + (if j ≤ c k then 2 ^ k else 0) := rfl
    rw [e, e2, ← ih]
    by_cases hr : k = r
    · subst hr
      have hd : dc c k k = c k - 1 := if_pos rfl
      rw [hd, if_neg (show ¬ (k < k ∧ c k = j) by omega)]
      by_cases hj2 : c k = j
      · rw [if_neg (show ¬ j ≤ c k - 1 by omega), if_pos (show k < k + 1 ∧ c k = j from ⟨by omega, hj2⟩), if_pos (show j ≤ c k by omega)]
      · rw [if_neg (show ¬ (k < k + 1 ∧ c k = j) from fun y => hj2 y.2)]
        by_cases h3 : j ≤ c k
        · rw [if_pos (show j ≤ c k - 1 by omega), if_pos h3]
          omega
        · rw [if_neg (show ¬ j ≤ c k - 1 by omega), if_neg h3]
    · have hd : dc c r k = c k := if_neg hr
      rw [hd]
      generalize (if j ≤ c k then 2 ^ k else 0) = z
      by_cases hc : r < k ∧ c r = j
      · rw [if_pos hc, if_pos (show r < k + 1 ∧ c r = j from ⟨by omega, hc.2⟩)]
        omega
      · rw [if_neg hc, if_neg (show ¬ (r < k + 1 ∧ c r = j) from fun y => hc ⟨by omega, y.2⟩)]
        omega
theorem er_gc {c : Nat → Nat} {r : Nat} (hr : r < 13) (h1 : 1 ≤ c r) (h4 : c r ≤ 4) : er (sN c 1 13) (sN c 2 13) (sN c 3 13) (sN c 4 13) (2 ^ r) = gc (dc c r) := by
  unfold er gc
  simp only [bt_b, sN_bit]
  have e1 := sN_dc c r 1 h1 (by decide) 13
  have e2 := sN_dc c r 2 h1 (by decide) 13
  have e3 := sN_dc c r 3 h1 (by decide) 13
  have e4 := sN_dc c r 4 h1 (by decide) 13
  have sb : ∀ a b : Nat, Nat.sub (a + b) b = a := fun a b => Nat.add_sub_cancel a b
  obtain hk | hk | hk | hk : c r = 1 ∨ c r = 2 ∨ c r = 3 ∨ c r = 4 := by omega
  · rw [hk] at e1 e2 e3 e4 ⊢
    rw [if_pos ⟨hr, rfl⟩] at e1
    rw [if_neg (by omega), Nat.add_zero] at e2 e3 e4
    rw [← e1, ← e2, ← e3, ← e4]
    simp [hr, sb]
  · rw [hk] at e1 e2 e3 e4 ⊢
    rw [if_pos ⟨hr, rfl⟩] at e2
    rw [if_neg (by omega), Nat.add_zero] at e1 e3 e4
    rw [← e1, ← e2, ← e3, ← e4]
    simp [hr, sb]
  · rw [hk] at e1 e2 e3 e4 ⊢
    rw [if_pos ⟨hr, rfl⟩] at e3
    rw [if_neg (by omega), Nat.add_zero] at e1 e2 e4
    rw [← e1, ← e2, ← e3, ← e4]
    simp [hr, sb]
  · rw [hk] at e1 e2 e3 e4 ⊢
    rw [if_pos ⟨hr, rfl⟩] at e4
    rw [if_neg (by omega), Nat.add_zero] at e1 e2 e3
    rw [← e1, ← e2, ← e3, ← e4]
    simp [hr, sb]
theorem lf_ok {N d O T H F : Nat} (h : lf N d O T H F = true) : GN O T H F < 7462 ∧ (N ≤ d + 2 → noFF T H F = true ∧ GN O T H F < 5863) ∧ (N ≠ 5 → mo (GN O T H F) O T H F 13 false = true) := by
  unfold lf at h
  rw [fo_eq] at h
  cases h1 : Nat.ble (Nat.succ (GN O T H F)) 7462 with
  | false =>
    rw [h1] at h
    exact Bool.noConfusion h
  | true =>
    rw [h1] at h
    have h : ((bif Nat.ble N (Nat.add d 2) then (bif noFF T H F then Nat.ble (Nat.succ (GN O T H F)) 5863 else false) else true) && (bif Nat.beq N 5 then true else mo (GN O T H F) O T H F 13 false)) = true := h
    rw [Bool.and_eq_true] at h
    refine ⟨Nat.ble_eq.mp h1, fun hN => ?_, fun hN => ?_⟩
    · have h2 := h.1
      rw [show Nat.ble N (Nat.add d 2) = true from Nat.ble_eq.mpr hN] at h2
      cases h3 : noFF T H F with
      | false =>
        rw [h3] at h2
        exact Bool.noConfusion h2
      | true =>
        rw [h3] at h2
        exact ⟨rfl, Nat.ble_eq.mp h2⟩
    · have h2 := h.2
      rw [show Nat.beq N 5 = false from Bool.eq_false_iff.mpr (fun y => hN (Nat.eq_of_beq_eq_true y))] at h2
      exact h2
