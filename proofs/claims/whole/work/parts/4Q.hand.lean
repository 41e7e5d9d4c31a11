/-! the cards of a set, in order -/
theorem sl_id_len (x : Int64) : ∀ n, n ≤ 52 → (sl (fun i => i) 52 (xN x) n).length = kt_c x n
  | 0, _ => rfl
  | n + 1, hn => by
    have ih := sl_id_len x n (by omega)
    have hm := mem_jr x (c := 52 - (n + 1)) (by omega)
    unfold sl kt_c
    by_cases h : (xN x).testBit (52 - (n + 1)) = true
    · rw [if_pos h, if_pos (hm.mpr h), List.length_cons, ih]
      omega
    · rw [if_neg h, if_neg (fun z => h (hm.mp z)), ih]
      omega
theorem kt_sl (x : Int64) : ∀ (n z : Nat) (f : Nat → Int32), n ≤ 52 → z + n ≤ 52 → (∀ i, i < z → (kt_lp x n (nI z) f).2 i = f i) ∧ ∀ i, i < (sl (fun i => i) 52 (xN x) n).length → (kt_lp x n (nI z) f).2 (z + i) = nI ((sl (fun i => i) 52 (xN x) n).getD i 0)
  | 0, z, f, _, _ => ⟨fun i _ => rfl, fun i hi => absurd hi (by unfold sl; simp)⟩
  | n + 1, z, f, hn, hz => by
    have hm := mem_jr x (c := 52 - (n + 1)) (by omega)
    unfold kt_lp sl
    by_cases h : (xN x).testBit (52 - (n + 1)) = true
    · rw [if_pos h, if_pos (hm.mpr h), nI_1, nI_clamp (n := z) (by omega)]
      obtain ⟨i1, i2⟩ := kt_sl x n (z + 1) (upd f z (nI (52 - (n + 1)))) (by omega) (by omega)
      refine ⟨fun i hi => ?_, fun i hi => ?_⟩
      · rw [i1 i (by omega), pk_un (by omega)]
      · cases i with
        | zero =>
          have q := i1 z (by omega)
          rw [pk_us] at q
          exact q
        | succ i =>
          rw [List.length_cons] at hi
          rw [show z + (i + 1) = z + 1 + i by omega, i2 i (by omega)]
          rfl
    · rw [if_neg h, if_neg (fun w => h (hm.mp w))]
      exact kt_sl x n z f (by omega) (by omega)
theorem sl_asc (K : Nat) : ∀ (n : Nat), n ≤ 52 → (∀ c ∈ sl (fun i => i) 52 K n, 52 - n ≤ c) ∧ (sl (fun i => i) 52 K n).Pairwise (· < ·)
  | 0, _ => ⟨fun c hc => absurd hc List.not_mem_nil, List.Pairwise.nil⟩
  | n + 1, hn => by
    obtain ⟨i1, i2⟩ := sl_asc K n (by omega)
    unfold sl
    split
    · refine ⟨fun c hc => ?_, List.pairwise_cons.mpr ⟨fun c hc => ?_, i2⟩⟩
      · rcases List.mem_cons.mp hc with hc | hc
        · rw [hc]
          exact Nat.le_refl _
        · have := i1 c hc
          omega
      · have := i1 c hc
        omega
    · refine ⟨fun c hc => ?_, i2⟩
      have := i1 c hc
      omega
/-- the cards of the set x, the lowest first -/
def crd (x : Int64) (i : Nat) : Nat := (sl (fun i => i) 52 (xN x) 52).getD i 0
theorem crd_lt (x : Int64) {i j : Nat} (hij : i < j) (hj : j < kt_c x 52) : crd x i < crd x j := by
  have hl := sl_id_len x 52 (Nat.le_refl _)
  have hp := (sl_asc (xN x) 52 (Nat.le_refl _)).2
  unfold crd
  rw [List.getD_eq_getElem?_getD, List.getD_eq_getElem?_getD, List.getElem?_eq_getElem (by omega), List.getElem?_eq_getElem (by omega)]
  exact List.pairwise_iff_getElem.mp hp i j (by omega) (by omega) hij
theorem crd_inj (x : Int64) : ∀ i j, i < kt_c x 52 → j < kt_c x 52 → crd x i = crd x j → i = j := by
  intro i j hi hj e
  apply Classical.byContradiction
  intro hne
  rcases Nat.lt_or_gt_of_ne hne with h | h
  · have := crd_lt x h hj
    omega
  · have := crd_lt x h hi
    omega
theorem crd_mem (x : Int64) (hx : in52 x) : arrS (crd x) (kt_c x 52) x := by
  have hl := sl_id_len x 52 (Nat.le_refl _)
  intro c
  have h1 : mem x c ↔ c ∈ sl (fun i => i) 52 (xN x) 52 := by
    rw [sl_mem _ _ _ _ _ (Nat.le_refl _)]
    constructor
    · intro h
      exact ⟨c, by omega, hx c h, h, rfl⟩
    · intro ⟨i, _, _, h3, h4⟩
      have h4 : i = c := h4
      rw [← h4]
      exact h3
  rw [h1, List.mem_iff_getElem]
  constructor
  · intro ⟨i, hi, e⟩
    refine ⟨i, by omega, ?_⟩
    unfold crd
    rw [List.getD_eq_getElem?_getD, List.getElem?_eq_getElem hi]
    exact e
  · intro ⟨i, hi, e⟩
    refine ⟨i, by omega, ?_⟩
    unfold crd at e
    rw [List.getD_eq_getElem?_getD, List.getElem?_eq_getElem (by omega)] at e
    exact e
theorem crd_52 (x : Int64) (hx : in52 x) {i : Nat} (hi : i < kt_c x 52) : crd x i < 52 := hx _ ((crd_mem x hx _).mpr ⟨i, hi, rfl⟩)
theorem hd_crd (x : Int64) {i : Nat} (hi : i < kt_c x 52) : k_hd x i = nI (crd x i) := by
  have hl := sl_id_len x 52 (Nat.le_refl _)
  have := (kt_sl x 52 0 (fun _ => 0) (Nat.le_refl _) (by decide)).2 i (by omega)
  rw [Nat.zero_add] at this
  exact this
theorem ktc_pop {x : Int64} (hx : in52 x) : kt_c x 52 = pop x := (arrS_pop (fun i hi => crd_52 x hx hi) (crd_inj x) (crd_mem x hx)).1.symm
theorem hand_of {x : Int64} (h : ¬ q_hand x) : in52 x ∧ (pop x = 5 ∨ pop x = 6 ∨ pop x = 7) := by
  have h1 : ¬ f_bc x < 5 := fun z => h (Or.inl z)
  have h2 : ¬ 7 < f_bc x := fun z => h (Or.inr (Or.inl z))
  have h3 : x &&& -4503599627370496 = 0 := Classical.not_not.mp (fun z => h (Or.inr (Or.inr z)))
  have hp := pop_le x
  rw [bc_is] at h1 h2
  have g1 : ¬ pop x < 5 := fun z => h1 (nI_lt (b := 5) z (by decide))
  have g2 : ¬ 7 < pop x := fun z => h2 (nI_lt (a := 7) z (by omega))
  refine ⟨fun c hc => ?_, by omega⟩
  apply Nat.lt_of_not_le
  intro h52
  refine (mem_and0 _ _).mp h3 c hc ?_
  unfold mem
  rw [hi_mask c (mem_lt hc)]
  exact decide_eq_true h52
theorem bk_V {x : Int64} (h : ¬ q_hand x) : k_bk x = nI (kv (V x)) := by
  obtain ⟨hx, hp⟩ := hand_of h
  have hk := ktc_pop hx
  exact best_V (by omega) (by omega) (fun i hi => hd_crd x hi) (fun i hi => crd_52 x hx hi) (crd_inj x) (crd_mem x hx)
