/-! the best five of the cards -/
def sub (x y : Int64) : Prop := ∀ c, mem x c → mem y c
theorem sub_ex {x y : Int64} (h : sub x y) (hne : x ≠ y) : ∃ c, mem y c ∧ ¬ mem x c := by
  apply Classical.byContradiction
  intro h2
  apply hne
  apply mem_ext
  intro c _
  refine ⟨h c, fun hy => ?_⟩
  apply Classical.byContradiction
  intro hx
  exact h2 ⟨c, hy, hx⟩
theorem sub_adds {x y z : Int64} {c : Nat} (h : sub x y) (hc : ¬ mem x c) (ha : adds z c y) : sub x z := by
  intro d hd
  rcases (ha.2 d).mp (h d hd) with h1 | h1
  · exact h1
  · rw [h1] at hd
    exact absurd hd hc
theorem adds_sub {z y : Int64} {c : Nat} (ha : adds z c y) : sub z y := fun d hd => (ha.2 d).mpr (Or.inl hd)
theorem sub_pop : ∀ (n : Nat) (x y : Int64), sub x y → pop y = n → pop x ≤ n
  | n, x, y, h, hp => by
    by_cases e : x = y
    · rw [e, hp]
      exact Nat.le_refl _
    · obtain ⟨c, hc, hx⟩ := sub_ex h e
      obtain ⟨z, ha⟩ := adds_of hc
      have h1 := adds_pop ha
      match n, hp with
      | 0, hp => omega
      | n + 1, hp =>
        have := sub_pop n x z (sub_adds h hx ha) (by omega)
        omega
theorem in_sub {x y : Int64} (h : sub x y) (hy : in52 y) : in52 x := fun c hc => hy c (h c hc)
theorem V_sub : ∀ (n : Nat) (x y : Int64), sub x y → in52 y → pop x = 5 → pop y = n → n ≤ 7 → V x ≤ V y
  | n, x, y, h, hy, hx5, hp, hn => by
    by_cases e : x = y
    · rw [e]
      exact Nat.le_refl _
    · obtain ⟨c, hc, hx⟩ := sub_ex h e
      obtain ⟨z, ha⟩ := adds_of hc
      have h1 := adds_pop ha
      have h2 := sub_adds h hx ha
      have h3 := sub_pop (pop z) x z h2 rfl
      match n, hp, hn with
      | 0, hp, hn => omega
      | n + 1, hp, hn =>
        have h4 := V_sub n x z h2 (in_sub (adds_sub ha) hy) hx5 (by omega) (by omega)
        exact Nat.le_trans h4 (V_mono ha hy (by omega))
theorem V_ex {y : Int64} (hy : in52 y) (hp : pop y = 5 ∨ pop y = 6 ∨ pop y = 7) : ∃ x, sub x y ∧ pop x = 5 ∧ V x = V y := by
  have h6 : ∀ y, in52 y → pop y = 6 → ∃ x, sub x y ∧ pop x = 5 ∧ V x = V y := by
    intro y hy hp
    obtain ⟨c, x, ha, e⟩ := V_att hy (Or.inl hp)
    have := adds_pop ha
    exact ⟨x, adds_sub ha, by omega, e⟩
  rcases hp with hp | hp | hp
  · exact ⟨y, fun c h => h, hp, rfl⟩
  · exact h6 y hy hp
  · obtain ⟨c, x, ha, e⟩ := V_att hy (Or.inr hp)
    have := adds_pop ha
    obtain ⟨z, h1, h2, h3⟩ := h6 x (in_sub (adds_sub ha) hy) (by omega)
    exact ⟨z, fun c h => adds_sub ha c (h1 c h), h2, h3.trans e⟩
theorem km_top {h : Nat → Int32} {b : Nat} {top : Int32} (h1 : ∀ K, K < 2 ^ b → k_some h b (nI K) ≤ top) : ∀ (n : Nat) (a : Int32), n ≤ 2 ^ b → a ≤ top → (a = top ∨ ∃ K, 2 ^ b - n ≤ K ∧ K < 2 ^ b ∧ k_some h b (nI K) = top) → km_lp h b n a = top
  | 0, a, _, _, h4 => by
    rcases h4 with h4 | ⟨K, h5, h6, _⟩
    · exact h4
    · omega
  | n + 1, a, hn, ha, h4 => by
    have hs := h1 (2 ^ b - (n + 1)) (by omega)
    unfold km_lp
    by_cases hc : k_some h b (nI (2 ^ b - (n + 1))) ≤ a
    · rw [if_pos hc]
      refine km_top h1 n a (by omega) ha ?_
      rcases h4 with h4 | ⟨K, h5, h6, h7⟩
      · exact Or.inl h4
      · by_cases e : K = 2 ^ b - (n + 1)
        · rw [e] at h7
          rw [h7] at hc
          exact Or.inl (Int32.le_antisymm ha hc)
        · exact Or.inr ⟨K, by omega, h6, h7⟩
    · rw [if_neg hc]
      refine km_top h1 n _ (by omega) hs ?_
      rcases h4 with h4 | ⟨K, h5, h6, h7⟩
      · rw [h4] at hc
        exact absurd hs hc
      · by_cases e : K = 2 ^ b - (n + 1)
        · rw [e] at h7
          exact Or.inl h7
        · exact Or.inr ⟨K, by omega, h6, h7⟩
theorem m1_le {n : Nat} (h : n < 2 ^ 31) : (-1 : Int32) ≤ nI n := by
  rw [Int32.le_iff_toInt_le, nI_toInt h]
  have : (-1 : Int32).toInt = -1 := rfl
  omega
/-- the cards of an array, as a set -/
def arrS (C : Nat → Nat) (b : Nat) (y : Int64) : Prop := ∀ c, mem y c ↔ ∃ i, i < b ∧ C i = c
theorem nd_mapN {C : Nat → Nat} : ∀ (n : Nat), (∀ i j, i < n → j < n → C i = C j → i = j) → ((List.range n).map C).Nodup
  | 0, _ => List.nodup_nil
  | n + 1, h => by
    rw [List.range_succ, List.map_append, List.nodup_append]
    refine ⟨nd_mapN n (fun i j hi hj => h i j (by omega) (by omega)), by simp, ?_⟩
    intro a ha b hb e
    obtain ⟨i, hi, e1⟩ := List.mem_map.mp ha
    simp only [List.map_cons, List.map_nil, List.mem_cons, List.not_mem_nil, or_false] at hb
    have hi := List.mem_range.mp hi
    have := h i n (by omega) (by omega) (by rw [e1, e, hb])
    omega
theorem arrS_pop {C : Nat → Nat} {b : Nat} {y : Int64} (hC : ∀ i, i < b → C i < 52) (hi : ∀ i j, i < b → j < b → C i = C j → i = j) (hy : arrS C b y) : pop y = b ∧ in52 y := by
  have h52 : ∀ c ∈ (List.range b).map C, c < 52 := by
    intro c hc
    obtain ⟨i, h1, e⟩ := List.mem_map.mp hc
    rw [← e]
    exact hC i (List.mem_range.mp h1)
  have e : y = setL ((List.range b).map C) := by
    apply mem_ext
    intro c _
    rw [hy c, setL_mem h52]
    constructor
    · intro ⟨i, h1, h2⟩
      exact List.mem_map.mpr ⟨i, List.mem_range.mpr h1, h2⟩
    · intro h
      obtain ⟨i, h1, h2⟩ := List.mem_map.mp h
      exact ⟨i, List.mem_range.mp h1, h2⟩
  rw [e]
  refine ⟨?_, setL_in h52⟩
  rw [setL_pop h52 (nd_mapN b hi)]
  simp
theorem two_7 {b : Nat} (hb : b ≤ 7) : 2 ^ b ≤ 128 := Nat.pow_le_pow_right (n := 2) (by decide) hb
/-- what the model's key of a choice is -/
theorem some_V {h : Nat → Int32} {C : Nat → Nat} {b K : Nat} (hb : b ≤ 7) (hK : K < 2 ^ b) (hh : ∀ i, i < b → h i = nI (C i)) (hC : ∀ i, i < b → C i < 52) (hi : ∀ i j, i < b → j < b → C i = C j → i = j) : ((sl C b K b).length = 5 → k_some h b (nI K) = nI (kv (V (setL (sl C b K b))))) ∧ ((sl C b K b).length ≠ 5 → k_some h b (nI K) = -1) := by
  have h2 := two_7 hb
  have hr := some_res hb (Nat.lt_of_lt_of_le hK h2) hh hC
  have h52 : ∀ c ∈ sl C b K b, c < 52 := by
    intro c hc
    obtain ⟨i, -, h1, -, e⟩ := (sl_mem C b K c b (Nat.le_refl _)).mp hc
    rw [← e]
    exact hC i h1
  refine ⟨fun h5 => kres_V h52 (sl_nd hi K b (Nat.le_refl _)) h5 hr, fun h5 => ?_⟩
  rcases hr with ⟨-, e⟩ | ⟨e, -⟩
  · exact e
  · exact absurd e h5
theorem sl_52 {C : Nat → Nat} {b K : Nat} (hC : ∀ i, i < b → C i < 52) : ∀ c ∈ sl C b K b, c < 52 := by
  intro c hc
  obtain ⟨i, -, h1, -, e⟩ := (sl_mem C b K c b (Nat.le_refl _)).mp hc
  rw [← e]
  exact hC i h1
theorem sl_sub {C : Nat → Nat} {b K : Nat} {y : Int64} (hC : ∀ i, i < b → C i < 52) (hy : arrS C b y) : sub (setL (sl C b K b)) y := by
  intro c hc
  obtain ⟨i, -, h1, -, e⟩ := (sl_mem C b K c b (Nat.le_refl _)).mp ((setL_mem (sl_52 hC) c).mp hc)
  exact (hy c).mpr ⟨i, h1, e⟩
/-- every set of its cards is chosen by some number -/
theorem sl_all {C : Nat → Nat} {b : Nat} {x y : Int64} (hC : ∀ i, i < b → C i < 52) (hy : arrS C b y) (h : sub x y) : ∃ K, K < 2 ^ b ∧ setL (sl C b K b) = x := by
  refine ⟨sN (fun i => bN (xN x) (C i)) 1 b, sN_lt _ _ b, ?_⟩
  apply mem_ext
  intro c _
  rw [setL_mem (sl_52 hC), sl_mem _ _ _ _ _ (Nat.le_refl _)]
  constructor
  · intro ⟨i, _, h1, h2, e⟩
    rw [sN_bit] at h2
    have h3 := (of_decide_eq_true h2).2
    have h4 := bN_lt (xN x) (C i)
    rw [← e]
    exact (tb_bN _ _).mpr (by omega)
  · intro hm
    obtain ⟨i, h1, e⟩ := (hy c).mp (h c hm)
    refine ⟨i, by omega, h1, ?_, e⟩
    rw [sN_bit]
    refine decide_eq_true ⟨h1, ?_⟩
    rw [e, (tb_bN _ _).mp hm]
    exact Nat.le_refl _
theorem best_V {h : Nat → Int32} {C : Nat → Nat} {b : Nat} {y : Int64} (h5 : 5 ≤ b) (hb : b ≤ 7) (hh : ∀ i, i < b → h i = nI (C i)) (hC : ∀ i, i < b → C i < 52) (hi : ∀ i j, i < b → j < b → C i = C j → i = j) (hy : arrS C b y) : k_best h b = nI (kv (V y)) := by
  obtain ⟨hp, hin⟩ := arrS_pop hC hi hy
  have hp' : pop y = 5 ∨ pop y = 6 ∨ pop y = 7 := by omega
  have hV := V_lt hin hp'
  have k22 := fun i => kv_22 i
  unfold k_best
  refine km_top (fun K hK => ?_) _ _ (Nat.le_refl _) (m1_le (Nat.lt_trans (k22 _) (by decide))) (Or.inr ?_)
  · obtain ⟨s1, s2⟩ := some_V hb hK hh hC hi
    by_cases e : (sl C b K b).length = 5
    · rw [s1 e, nI_leI (Nat.lt_trans (k22 _) (by decide)) (Nat.lt_trans (k22 _) (by decide))]
      refine kv_le ?_ hV
      exact V_sub (pop y) _ y (sl_sub hC hy) hin ((setL_pop (sl_52 hC) (sl_nd hi K b (Nat.le_refl _))).trans e) rfl (by omega)
    · rw [s2 e]
      exact m1_le (Nat.lt_trans (k22 _) (by decide))
  · obtain ⟨x, hx, hx5, e⟩ := V_ex hin hp'
    obtain ⟨K, hK, eK⟩ := sl_all hC hy hx
    refine ⟨K, by omega, hK, ?_⟩
    have hl : (sl C b K b).length = 5 := by
      rw [← setL_pop (sl_52 hC) (sl_nd hi K b (Nat.le_refl _)), eK]
      exact hx5
    rw [(some_V hb hK hh hC hi).1 hl, eK, e]
