/-! the greatest set of the best five -/
def dl : List Nat → Nat → Nat
  | [], _ => 0
  | c :: L, K => (K % 2) * 2 ^ c + dl L (K / 2)
theorem dl_dvd : ∀ (L : List Nat) (m K : Nat), (∀ c ∈ L, m ≤ c) → ∃ q, dl L K = 2 ^ m * q
  | [], m, K, _ => ⟨0, rfl⟩
  | c :: L, m, K, h => by
    obtain ⟨q, e⟩ := dl_dvd L m (K / 2) (fun d hd => h d (List.mem_cons_of_mem _ hd))
    refine ⟨K % 2 * 2 ^ (c - m) + q, ?_⟩
    have hm := h c List.mem_cons_self
    show K % 2 * 2 ^ c + dl L (K / 2) = _
    have ec : 2 ^ c = 2 ^ m * 2 ^ (c - m) := by rw [← Nat.pow_add, show m + (c - m) = c by omega]
    rw [e, Nat.mul_add, ec, Nat.mul_left_comm]
/-- down to the next set of some of the cards -/
theorem dl_pred : ∀ (L : List Nat), L.Pairwise (· < ·) → ∀ K, 1 ≤ K → K < 2 ^ L.length → 1 ≤ dl L K ∧ (dl L K - 1) &&& dl L (2 ^ L.length - 1) = dl L (K - 1) ∧ ∀ M, M < 2 ^ L.length → dl L M &&& dl L (2 ^ L.length - 1) = dl L M
  | [], _, K, h1, h2 => by
    have : K < 1 := h2
    omega
  | c :: L, hp, K, h1, h2 => by
    have hp2 := List.pairwise_cons.mp hp
    have hge : ∀ d ∈ L, c + 1 ≤ d := fun d hd => hp2.1 d hd
    have e2 : 2 ^ (c + 1) = 2 * 2 ^ c := by rw [Nat.pow_succ, Nat.mul_comm]
    have hpos : 0 < 2 ^ c := Nat.two_pow_pos c
    have el : 2 ^ (c :: L).length = 2 * 2 ^ L.length := by
      rw [List.length_cons, Nat.pow_succ, Nat.mul_comm]
    have hpl : 0 < 2 ^ L.length := Nat.two_pow_pos _
    have ef : dl (c :: L) (2 ^ (c :: L).length - 1) = 2 ^ c + dl L (2 ^ L.length - 1) := by
      show (2 ^ (c :: L).length - 1) % 2 * 2 ^ c + dl L ((2 ^ (c :: L).length - 1) / 2) = _
      rw [el, show (2 * 2 ^ L.length - 1) % 2 = 1 by omega, show (2 * 2 ^ L.length - 1) / 2 = 2 ^ L.length - 1 by omega, Nat.one_mul]
    obtain ⟨X, eX⟩ := dl_dvd L (c + 1) (2 ^ L.length - 1) hge
    rw [el] at h2
    -- every choice of L lies in the whole
    have hsub : ∀ M, M < 2 ^ L.length → dl L M &&& dl L (2 ^ L.length - 1) = dl L M := by
      intro M hM
      by_cases hz : L.length = 0
      · have : L = [] := List.length_eq_zero_iff.mp hz
        subst this
        exact Nat.zero_and _
      · have hlt : 1 < 2 ^ L.length := Nat.one_lt_two_pow hz
        exact (dl_pred L hp2.2 1 (Nat.le_refl _) hlt).2.2 M hM
    have hall : ∀ M, M < 2 * 2 ^ L.length → dl (c :: L) M &&& dl (c :: L) (2 ^ (c :: L).length - 1) = dl (c :: L) M := by
      intro M hM
      obtain ⟨D, eD⟩ := dl_dvd L (c + 1) (M / 2) hge
      have hs := hsub (M / 2) (by omega)
      rw [ef]
      show (M % 2 * 2 ^ c + dl L (M / 2)) &&& _ = M % 2 * 2 ^ c + dl L (M / 2)
      rw [eX, eD] at hs ⊢
      have hlt : M % 2 * 2 ^ c < 2 ^ (c + 1) := by
        have : M % 2 < 2 := Nat.mod_lt _ (by decide)
        obtain h | h : M % 2 = 0 ∨ M % 2 = 1 := by omega
        · rw [h]; omega
        · rw [h]; omega
      rw [an_split (c + 1) D (M % 2 * 2 ^ c) X (2 ^ c) hlt (by omega)]
      have hs2 := an_split (c + 1) D 0 X 0 (Nat.two_pow_pos _) (Nat.two_pow_pos _)
      rw [Nat.zero_add, Nat.zero_add, hs, Nat.and_self, Nat.zero_add] at hs2
      rw [← hs2]
      congr 1
      obtain h | h : M % 2 = 0 ∨ M % 2 = 1 := by omega
      · rw [h, Nat.zero_mul, Nat.zero_and]
      · rw [h, Nat.one_mul, Nat.and_self]
    obtain ⟨D, eD⟩ := dl_dvd L (c + 1) (K / 2) hge
    have hs := hsub (K / 2) (by omega)
    by_cases ho : K % 2 = 1
    · have eK : dl (c :: L) K = 2 ^ c + dl L (K / 2) := by
        show K % 2 * 2 ^ c + _ = _
        rw [ho, Nat.one_mul]
      have eK1 : dl (c :: L) (K - 1) = dl L (K / 2) := by
        show (K - 1) % 2 * 2 ^ c + dl L ((K - 1) / 2) = _
        rw [show (K - 1) % 2 = 0 by omega, show (K - 1) / 2 = K / 2 by omega, Nat.zero_mul, Nat.zero_add]
      refine ⟨by rw [eK]; omega, ?_, fun M hM => hall M (by rw [el] at hM; exact hM)⟩
      rw [eK, eK1, ef]
      rw [eX, eD] at hs
      rw [eD, eX, show 2 ^ c + 2 ^ (c + 1) * D - 1 = (2 ^ c - 1) + 2 ^ (c + 1) * D by omega, an_split (c + 1) D (2 ^ c - 1) X (2 ^ c) (by omega) (by omega)]
      have hs2 := an_split (c + 1) D 0 X 0 (Nat.two_pow_pos _) (Nat.two_pow_pos _)
      rw [Nat.zero_add, Nat.zero_add, hs, Nat.and_self, Nat.zero_add] at hs2
      rw [← hs2, Nat.and_comm, Nat.and_two_pow_sub_one_eq_mod, Nat.mod_self, Nat.zero_add]
    · have ev : K % 2 = 0 := by omega
      have eK : dl (c :: L) K = dl L (K / 2) := by
        show K % 2 * 2 ^ c + _ = _
        rw [ev, Nat.zero_mul, Nat.zero_add]
      obtain ⟨i1, i2, i3⟩ := dl_pred L hp2.2 (K / 2) (by omega) (by omega)
      have eK1 : dl (c :: L) (K - 1) = 2 ^ c + dl L (K / 2 - 1) := by
        show (K - 1) % 2 * 2 ^ c + dl L ((K - 1) / 2) = _
        rw [show (K - 1) % 2 = 1 by omega, show (K - 1) / 2 = K / 2 - 1 by omega, Nat.one_mul]
      refine ⟨by rw [eK]; exact i1, ?_, fun M hM => hall M (by rw [el] at hM; exact hM)⟩
      rw [eK, eK1, ef, ← i2]
      rw [eD] at i1 ⊢
      rw [eX]
      obtain ⟨E, eE⟩ : ∃ E, D = E + 1 := by
        cases D with
        | zero => rw [Nat.mul_zero] at i1; omega
        | succ E => exact ⟨E, rfl⟩
      rw [eE, Nat.mul_add, Nat.mul_one, show 2 ^ (c + 1) * E + 2 ^ (c + 1) - 1 = (2 ^ (c + 1) - 1) + 2 ^ (c + 1) * E by omega]
      have a1 := an_split (c + 1) E (2 ^ (c + 1) - 1) X (2 ^ c) (by omega) (by omega)
      have a2 := an_split (c + 1) E (2 ^ (c + 1) - 1) X 0 (by omega) (by omega)
      rw [Nat.zero_add, Nat.and_zero, Nat.zero_add] at a2
      rw [a1, a2, Nat.and_comm (2 ^ (c + 1) - 1), Nat.and_two_pow_sub_one_eq_mod, Nat.mod_eq_of_lt (by omega)]
theorem dl_bit : ∀ (L : List Nat), L.Pairwise (· < ·) → ∀ (K c : Nat), (dl L K).testBit c = true ↔ ∃ i, i < L.length ∧ K.testBit i = true ∧ L.getD i 0 = c
  | [], _, K, c => by
    show (0 : Nat).testBit c = true ↔ _
    rw [Nat.zero_testBit]
    exact ⟨fun h => absurd h (by decide), fun ⟨i, h, _⟩ => absurd h (by simp)⟩
  | d :: L, hp, K, c => by
    have hp2 := List.pairwise_cons.mp hp
    have hge : ∀ e ∈ L, d + 1 ≤ e := fun e he => hp2.1 e he
    obtain ⟨D, eD⟩ := dl_dvd L (d + 1) (K / 2) hge
    have ih := dl_bit L hp2.2 (K / 2) c
    have e2 : 2 ^ (d + 1) = 2 * 2 ^ d := by rw [Nat.pow_succ, Nat.mul_comm]
    have hpos : 0 < 2 ^ d := Nat.two_pow_pos d
    have hlt : K % 2 * 2 ^ d < 2 ^ (d + 1) := by
      obtain h | h : K % 2 = 0 ∨ K % 2 = 1 := by omega
      · rw [h]; omega
      · rw [h]; omega
    have e1 : (dl (d :: L) K).testBit c = if c < d + 1 then (K % 2 * 2 ^ d).testBit c else D.testBit (c - (d + 1)) := by
      show (K % 2 * 2 ^ d + dl L (K / 2)).testBit c = _
      rw [eD, Nat.add_comm, Nat.testBit_two_pow_mul_add _ hlt]
    have e3 : (dl L (K / 2)).testBit c = if c < d + 1 then false else D.testBit (c - (d + 1)) := by
      have := Nat.testBit_two_pow_mul_add D (b := 0) (i := d + 1) (Nat.two_pow_pos _) c
      rw [Nat.add_zero, Nat.zero_testBit] at this
      rw [eD]
      exact this
    have ek : ∀ i, K.testBit (i + 1) = (K / 2).testBit i := fun i => Nat.testBit_succ K i
    have e0 : K.testBit 0 = decide (K % 2 = 1) := Nat.testBit_zero K
    rw [e1]
    by_cases hc : c < d + 1
    · rw [if_pos hc]
      rw [if_pos hc] at e3
      constructor
      · intro h
        obtain h0 | h0 : K % 2 = 0 ∨ K % 2 = 1 := by omega
        · rw [h0, Nat.zero_mul, Nat.zero_testBit] at h
          cases h
        · rw [h0, Nat.one_mul, Nat.testBit_two_pow] at h
          have h := of_decide_eq_true h
          refine ⟨0, by simp, by rw [e0]; exact decide_eq_true h0, ?_⟩
          show d = c
          exact h
      · intro ⟨i, hi, h3, h4⟩
        cases i with
        | zero =>
          have h4 : d = c := h4
          rw [e0] at h3
          rw [of_decide_eq_true h3, Nat.one_mul, Nat.testBit_two_pow]
          exact decide_eq_true h4
        | succ i =>
          have h5 : (dl L (K / 2)).testBit c = true := ih.mpr ⟨i, by rw [List.length_cons] at hi; omega, by rw [← ek]; exact h3, h4⟩
          rw [e3] at h5
          cases h5
    · rw [if_neg hc]
      rw [if_neg hc] at e3
      rw [← e3, ih]
      constructor
      · intro ⟨i, hi, h3, h4⟩
        exact ⟨i + 1, by rw [List.length_cons]; omega, by rw [ek]; exact h3, h4⟩
      · intro ⟨i, hi, h3, h4⟩
        cases i with
        | zero =>
          have h4 : d = c := h4
          omega
        | succ i =>
          exact ⟨i, by rw [List.length_cons] at hi; omega, by rw [← ek]; exact h3, h4⟩
/-- the set that the number K chooses of x -/
def DK (x : Int64) (K : Nat) : Int64 := setL (sl (crd x) (kt_c x 52) K (kt_c x 52))
theorem DK_N {x : Int64} (hx : in52 x) (K : Nat) : xN (DK x K) = dl (sl (fun i => i) 52 (xN x) 52) K := by
  have hl := sl_id_len x 52 (Nat.le_refl _)
  have hb := dl_bit _ (sl_asc (xN x) 52 (Nat.le_refl _)).2 K
  apply Nat.eq_of_testBit_eq
  intro c
  rw [Bool.eq_iff_iff, hb c, hl]
  have h1 : (xN (DK x K)).testBit c = true ↔ mem (DK x K) c := Iff.rfl
  rw [h1]
  unfold DK
  rw [setL_mem (sl_52 (fun i hi => crd_52 x hx hi)), sl_mem _ _ _ _ _ (Nat.le_refl _)]
  constructor
  · intro ⟨i, _, h2, h3, h4⟩
    exact ⟨i, h2, h3, h4⟩
  · intro ⟨i, h2, h3, h4⟩
    exact ⟨i, by omega, h2, h3, h4⟩
theorem DK_full {x : Int64} (hx : in52 x) : DK x (2 ^ kt_c x 52 - 1) = x := by
  apply mem_ext
  intro c _
  unfold DK
  rw [setL_mem (sl_52 (fun i hi => crd_52 x hx hi)), sl_mem _ _ _ _ _ (Nat.le_refl _), crd_mem x hx c]
  constructor
  · intro ⟨i, _, h2, _, h4⟩
    exact ⟨i, h2, h4⟩
  · intro ⟨i, h2, h4⟩
    refine ⟨i, by omega, h2, ?_, h4⟩
    rw [Nat.testBit_two_pow_sub_one]
    exact decide_eq_true h2
theorem DK_pred {x : Int64} (hx : in52 x) {K : Nat} (h1 : 1 ≤ K) (h2 : K < 2 ^ kt_c x 52) : (DK x K - 1) &&& x = DK x (K - 1) ∧ xN (DK x (K - 1)) < xN (DK x K) := by
  have hl := sl_id_len x 52 (Nat.le_refl _)
  have hp := dl_pred _ (sl_asc (xN x) 52 (Nat.le_refl _)).2 K h1 (by rw [hl]; exact h2)
  rw [hl] at hp
  have eF : xN x = dl (sl (fun i => i) 52 (xN x) 52) (2 ^ kt_c x 52 - 1) := by
    rw [← DK_N hx, DK_full hx]
  rw [← eF] at hp
  obtain ⟨p1, p2, -⟩ := hp
  have hs : xN (DK x K - 1) = xN (DK x K) - 1 := xN_sub (y := 1) (by rw [DK_N hx]; exact p1)
  constructor
  · apply xN_inj
    rw [xN_and, hs, DK_N hx, DK_N hx]
    exact p2
  · rw [DK_N hx, DK_N hx, ← p2]
    have := Nat.and_le_left (n := dl (sl (fun i => i) 52 (xN x) 52) K - 1) (m := xN x)
    omega
