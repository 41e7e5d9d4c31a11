/-! the class's best five and the model's -/
theorem in_lt {x : Int64} (hx : in52 x) : xN x < 2 ^ 52 := by
  apply Nat.lt_pow_two_of_testBit
  intro i hi
  apply Bool.eq_false_iff.mpr
  intro h
  have := hx i h
  omega
theorem le_N {x y : Int64} (hx : in52 x) (hy : in52 y) : x ≤ y ↔ xN x ≤ xN y := by
  have h1 := in_lt hx
  have h2 := in_lt hy
  have e : ∀ z : Int64, xN z < 2 ^ 52 → z.toInt = (xN z : Int) := by
    intro z hz
    show z.toBitVec.toInt = (z.toBitVec.toNat : Int)
    have hz : z.toBitVec.toNat < 2 ^ 52 := hz
    exact BitVec.toInt_eq_toNat_of_lt (by omega)
  rw [Int64.le_iff_toInt_le, e x h1, e y h2]
  omega
theorem kxset_mem {h : Nat → Int32} {C : Nat → Nat} {b K : Nat} (hb : b ≤ 7) (hK : K < 128) (hh : ∀ i, i < b → h i = nI (C i)) (hC : ∀ i, i < b → C i < 52) (c : Nat) : ∀ (n : Nat) (w : Int64), n ≤ b → (mem (kx_set h b (nI K) n w) c ↔ mem w c ∨ ∃ i, b - n ≤ i ∧ i < b ∧ K.testBit i = true ∧ C i = c)
  | 0, w, _ => by
    unfold kx_set
    exact ⟨Or.inl, fun z => z.elim id (fun ⟨i, h1, h2, _⟩ => absurd h2 (by omega))⟩
  | n + 1, w, hn => by
    have hbit := jri_bit K hK (b - (n + 1)) (by omega)
    have hc := hC (b - (n + 1)) (by omega)
    unfold kx_set
    rw [kxset_mem hb hK hh hC c n _ (by omega), nI_clamp (by omega), hh _ (by omega)]
    by_cases hs : K.testBit (b - (n + 1)) = true
    · rw [if_pos (hbit.mpr hs), mem_or, mem_bit (by omega)]
      constructor
      · intro z
        rcases z with (z | z) | ⟨i, h1, h2⟩
        · exact Or.inl z
        · exact Or.inr ⟨b - (n + 1), by omega, by omega, hs, z.symm⟩
        · exact Or.inr ⟨i, by omega, h2⟩
      · intro z
        rcases z with z | ⟨i, h1, h2, h3, h4⟩
        · exact Or.inl (Or.inl z)
        · by_cases e : i = b - (n + 1)
          · rw [e] at h4
            exact Or.inl (Or.inr h4.symm)
          · exact Or.inr ⟨i, by omega, h2, h3, h4⟩
    · rw [if_neg (fun z => hs (hbit.mp z))]
      constructor
      · intro z
        rcases z with z | ⟨i, h1, h2⟩
        · exact Or.inl z
        · exact Or.inr ⟨i, by omega, h2⟩
      · intro z
        rcases z with z | ⟨i, h1, h2, h3, h4⟩
        · exact Or.inl z
        · by_cases e : i = b - (n + 1)
          · rw [e] at h3
            exact absurd h3 hs
          · exact Or.inr ⟨i, by omega, h2, h3, h4⟩
theorem kx_DK {x : Int64} (hx : in52 x) (hb : kt_c x 52 ≤ 7) {K : Nat} (hK : K < 2 ^ kt_c x 52) : kx_set (k_hd x) (kt_c x 52) (nI K) (kt_c x 52) 0 = DK x K := by
  apply mem_ext
  intro c _
  rw [kxset_mem hb (Nat.lt_of_lt_of_le hK (two_7 hb)) (fun i hi => hd_crd x hi) (fun i hi => crd_52 x hx hi) c _ 0 (Nat.le_refl _)]
  unfold DK
  rw [setL_mem (sl_52 (fun i hi => crd_52 x hx hi)), sl_mem _ _ _ _ _ (Nat.le_refl _)]
  exact ⟨fun z => z.elim (fun w => absurd w (mem_0 c)) id, Or.inr⟩
theorem DK_in {x : Int64} (hx : in52 x) (K : Nat) : in52 (DK x K) := setL_in (sl_52 (fun i hi => crd_52 x hx hi))
theorem DK_pop {x : Int64} (hx : in52 x) (K : Nat) : pop (DK x K) = (sl (crd x) (kt_c x 52) K (kt_c x 52)).length := setL_pop (sl_52 (fun i hi => crd_52 x hx hi)) (sl_nd (crd_inj x) K _ (Nat.le_refl _))
theorem DK_mono {x : Int64} (hx : in52 x) {K : Nat} : ∀ M, K < M → M < 2 ^ kt_c x 52 → xN (DK x K) < xN (DK x M)
  | 0, h, _ => absurd h (by omega)
  | M + 1, h, h2 => by
    have h3 := (DK_pred hx (K := M + 1) (by omega) h2).2
    rw [Nat.add_sub_cancel] at h3
    by_cases e : K = M
    · rw [e]
      exact h3
    · have := DK_mono hx (K := K) M (by omega) (by omega)
      omega
/-- the choice K is a best five -/
def cand (x : Int64) (K : Nat) : Prop := pop (DK x K) = 5 ∧ V (DK x K) = V x
theorem kv_inj {i j : Nat} (hi : i < 7462) (hj : j < 7462) (h : kv i = kv j) : i = j := by
  apply Classical.byContradiction
  intro hne
  rcases Nat.lt_or_gt_of_ne hne with h1 | h1
  · have := kv_lt h1 hj
    omega
  · have := kv_lt h1 hi
    omega
theorem some_cand {x : Int64} (h : ¬ q_hand x) {K : Nat} (hK : K < 2 ^ kt_c x 52) : k_some (k_hd x) (kt_c x 52) (nI K) = k_bk x ↔ cand x K := by
  obtain ⟨hx, hp⟩ := hand_of h
  have hk := ktc_pop hx
  have hV := V_lt hx hp
  have k22 := fun i => kv_22 i
  obtain ⟨s1, s2⟩ := some_V (h := k_hd x) (C := crd x) (by omega) hK (fun i hi => hd_crd x hi) (fun i hi => crd_52 x hx hi) (crd_inj x)
  have hpop := DK_pop hx K
  rw [bk_V h]
  unfold cand
  by_cases e : (sl (crd x) (kt_c x 52) K (kt_c x 52)).length = 5
  · have h5 : pop (DK x K) = 5 := hpop.trans e
    rw [s1 e, nI_eq (Nat.lt_trans (k22 _) (by decide)) (Nat.lt_trans (k22 _) (by decide))]
    exact ⟨fun z => ⟨h5, kv_inj (V_lt (DK_in hx K) (Or.inl h5)) hV z⟩, fun z => congrArg kv z.2⟩
  · rw [s2 e]
    exact ⟨fun z => absurd z.symm (nI_m1 (Nat.lt_trans (k22 _) (by decide))), fun z => absurd (hpop.symm.trans z.1) e⟩
theorem five_cand {x : Int64} (h : ¬ q_hand x) (K : Nat) : f_five (DK x K) (f_valueOf x) = 0 ↔ ¬ cand x K := by
  obtain ⟨hx, hp⟩ := hand_of h
  have hV := V_lt hx hp
  have hpl := pop_le (DK x K)
  unfold f_five cand
  rw [bc_is, value_V hx hp]
  by_cases e : pop (DK x K) = 5
  · have hV2 := V_lt (DK_in hx K) (Or.inl e)
    rw [if_pos (by rw [e]; rfl), value_V (DK_in hx K) (Or.inl e)]
    by_cases e2 : V (DK x K) = V x
    · rw [if_pos (by rw [e2])]
      exact ⟨fun z => absurd z (by decide), fun z => absurd ⟨e, e2⟩ z⟩
    · rw [if_neg (fun z => e2 ((nI_eq (by omega) (by omega)).mp z))]
      exact ⟨fun _ z => e2 z.2, fun _ => rfl⟩
  · rw [if_neg (show ¬ nI (pop (DK x K)) = 5 from fun z => e ((nI_eq (b := 5) (by omega) (by decide)).mp z))]
    exact ⟨fun _ z => e z.1, fun _ => rfl⟩
theorem grt (P : Nat → Prop) : ∀ N, (∃ K, K < N ∧ P K) → ∃ K, K < N ∧ P K ∧ ∀ M, K < M → M < N → ¬ P M
  | 0, ⟨K, h, _⟩ => absurd h (by omega)
  | N + 1, ⟨K, h, hP⟩ => by
    by_cases hN : P N
    · exact ⟨N, by omega, hN, fun M h1 h2 => absurd h2 (by omega)⟩
    · have hne : K ≠ N := fun e => hN (e ▸ hP)
      obtain ⟨J, h1, h2, h3⟩ := grt P N ⟨K, by omega, hP⟩
      refine ⟨J, by omega, h2, fun M h4 h5 => ?_⟩
      by_cases e : M = N
      · rw [e]
        exact hN
      · exact h3 M h4 (by omega)
theorem cand_ex {x : Int64} (h : ¬ q_hand x) : ∃ K, K < 2 ^ kt_c x 52 ∧ cand x K := by
  obtain ⟨hx, hp⟩ := hand_of h
  obtain ⟨y, h1, h2, h3⟩ := V_ex hx hp
  obtain ⟨K, hK, e⟩ := sl_all (fun i hi => crd_52 x hx hi) (crd_mem x hx) h1
  refine ⟨K, hK, ?_⟩
  unfold cand
  have e : DK x K = y := e
  rw [e]
  exact ⟨h2, h3⟩
theorem be_top {x : Int64} (h : ¬ q_hand x) {J : Nat} (hJ : cand x J) : ∀ (n K : Nat), J ≤ K → K < 2 ^ kt_c x 52 → K < J + n → (∀ M, J < M → M ≤ K → ¬ cand x M) → be_lp x (f_valueOf x) n (DK x K) = DK x J
  | 0, K, h1, _, h3, _ => by omega
  | n + 1, K, h1, h2, h3, h4 => by
    unfold be_lp
    by_cases e : K = J
    · rw [e, if_neg (fun z => (five_cand h J).mp z hJ)]
    · rw [if_pos ((five_cand h K).mpr (h4 K (by omega) (Nat.le_refl _))), (DK_pred (hand_of h).1 (by omega) h2).1]
      exact be_top h hJ n (K - 1) (by omega) (by omega) (by omega) (fun M h5 h6 => h4 M h5 (by omega))
theorem kx_top {x : Int64} (h : ¬ q_hand x) {J : Nat} (hJ : cand x J) (hJ2 : J < 2 ^ kt_c x 52) (hm : ∀ M, J < M → M < 2 ^ kt_c x 52 → ¬ cand x M) : ∀ (n : Nat) (z : Int64), n ≤ 2 ^ kt_c x 52 → ((2 ^ kt_c x 52 - n ≤ J ∧ (z = 0 ∨ ∃ M, M < 2 ^ kt_c x 52 - n ∧ z = DK x M)) ∨ (J < 2 ^ kt_c x 52 - n ∧ z = DK x J)) → kx_lp (k_hd x) (kt_c x 52) (k_bk x) n z = DK x J := by
  intro n
  induction n with
  | zero =>
    intro z _ h3
    rcases h3 with ⟨h3, -⟩ | ⟨-, h3⟩
    · omega
    · exact h3
  | succ n ih =>
    intro z hn h3
    obtain ⟨hx, hp⟩ := hand_of h
    have hk := ktc_pop hx
    have hK : 2 ^ kt_c x 52 - (n + 1) < 2 ^ kt_c x 52 := by omega
    unfold kx_lp
    rw [kx_DK hx (by omega) hK]
    by_cases hc : cand x (2 ^ kt_c x 52 - (n + 1))
    · rw [if_pos ((some_cand h hK).mpr hc)]
      rcases h3 with ⟨h3, h4⟩ | ⟨h3, h4⟩
      · have hgt : ¬ DK x (2 ^ kt_c x 52 - (n + 1)) ≤ z := by
          rcases h4 with h4 | ⟨M, h5, h6⟩
          · rw [h4, le_N (DK_in hx _) (fun c w => absurd w (mem_0 c))]
            intro w
            have w0 : xN (DK x (2 ^ kt_c x 52 - (n + 1))) = 0 := Nat.le_zero.mp w
            have := hc.1
            rw [xN_0.mpr w0, pop_0] at this
            omega
          · rw [h6, le_N (DK_in hx _) (DK_in hx _)]
            have := DK_mono hx _ h5 hK
            omega
        rw [if_neg hgt]
        refine ih _ (by omega) ?_
        by_cases e : J = 2 ^ kt_c x 52 - (n + 1)
        · exact Or.inr ⟨by omega, by rw [e]⟩
        · exact Or.inl ⟨by omega, Or.inr ⟨2 ^ kt_c x 52 - (n + 1), by omega, rfl⟩⟩
      · exact absurd hc (hm _ h3 hK)
    · rw [if_neg (fun w => hc ((some_cand h hK).mp w))]
      refine ih z (by omega) ?_
      rcases h3 with ⟨h3, h4⟩ | ⟨h3, h4⟩
      · by_cases e : J = 2 ^ kt_c x 52 - (n + 1)
        · rw [← e] at hc
          exact absurd hJ hc
        · refine Or.inl ⟨by omega, h4.imp id (fun ⟨M, h5, h6⟩ => ⟨M, by omega, h6⟩)⟩
      · exact Or.inr ⟨by omega, h4⟩
theorem best_n {x : Int64} (h : ¬ q_hand x) : g_best x = k_bst x := by
  obtain ⟨hx, hp⟩ := hand_of h
  have hk := ktc_pop hx
  have h7 := two_7 (b := kt_c x 52) (by omega)
  obtain ⟨J, h1, h2, h3⟩ := grt (cand x) (2 ^ kt_c x 52) (cand_ex h)
  have e1 := be_top h h2 128 (2 ^ kt_c x 52 - 1) (by omega) (by omega) (by omega) (fun M h4 h5 => h3 M h4 (by omega))
  rw [DK_full hx] at e1
  have e2 := kx_top h h2 h1 h3 (2 ^ kt_c x 52) 0 (Nat.le_refl _) (Or.inl ⟨by omega, Or.inl rfl⟩)
  unfold g_best k_bst k_bst0
  rw [e1, e2]
