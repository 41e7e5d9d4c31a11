/-! longs as sets of cards -/
/-- the card c is in the set -/
def mem (x : Int64) (c : Nat) : Prop := (xN x).testBit c = true
theorem tb_bN (X c : Nat) : X.testBit c = true ↔ bN X c = 1 := by
  unfold bN
  rw [Nat.testBit_eq_decide_div_mod_eq]
  simp
theorem mem_jr (x : Int64) {c : Nat} (h : c < 64) : jr x (nI c) &&& 1 = 1 ↔ mem x c := by
  rw [jr_1 x h]
  exact (tb_bN _ _).symm
theorem mem_lt {x : Int64} {c : Nat} (h : mem x c) : c < 64 := by
  apply Nat.lt_of_not_le
  intro h2
  unfold mem at h
  rw [Nat.testBit_lt_two_pow (Nat.lt_of_lt_of_le (xN_lt x) (Nat.pow_le_pow_right (by decide) h2))] at h
  cases h
theorem mem_or (x y : Int64) (c : Nat) : mem (x ||| y) c ↔ mem x c ∨ mem y c := by
  unfold mem
  rw [xN_or, Nat.testBit_or, Bool.or_eq_true]
theorem mem_and (x y : Int64) (c : Nat) : mem (x &&& y) c ↔ mem x c ∧ mem y c := by
  unfold mem
  rw [xN_and, Nat.testBit_and, Bool.and_eq_true]
theorem mem_not (x : Int64) {c : Nat} (h : c < 64) : mem (x ^^^ -1) c ↔ ¬ mem x c := by
  unfold mem
  rw [xN_xor, Nat.testBit_xor, show xN (-1) = 2 ^ 64 - 1 from by decide +kernel, Nat.testBit_two_pow_sub_one]
  simp [h]
theorem mem_0 (c : Nat) : ¬ mem 0 c := by
  unfold mem
  rw [show xN 0 = 0 from rfl, Nat.zero_testBit]
  decide
theorem mem_bit {d : Nat} (hd : d < 64) (c : Nat) : mem (jl 1 (nI d)) c ↔ c = d := by
  unfold mem
  rw [jl_N hd, Nat.testBit_two_pow]
  simp [eq_comm]
theorem mem_ext {x y : Int64} (h : ∀ c, c < 64 → (mem x c ↔ mem y c)) : x = y := by
  apply xN_inj
  apply Nat.eq_of_testBit_eq
  intro c
  by_cases hc : c < 64
  · have := h c hc
    unfold mem at this
    exact Bool.eq_iff_iff.mpr this
  · have h1 : ∀ z : Int64, (xN z).testBit c = false := fun z => Nat.testBit_lt_two_pow (Nat.lt_of_lt_of_le (xN_lt z) (Nat.pow_le_pow_right (by decide) (by omega)))
    rw [h1 x, h1 y]
theorem mem_and0 (x y : Int64) : x &&& y = 0 ↔ ∀ c, mem x c → ¬ mem y c := by
  constructor
  · intro h c h1 h2
    have h3 : mem (x &&& y) c := (mem_and x y c).mpr ⟨h1, h2⟩
    rw [h] at h3
    exact mem_0 c h3
  · intro h
    apply mem_ext
    intro c _
    rw [mem_and]
    exact ⟨fun z => absurd z.2 (h c z.1), fun z => absurd z (mem_0 c)⟩
theorem mem_ne0 (x : Int64) : ¬ x = 0 ↔ ∃ c, mem x c := by
  constructor
  · intro h
    apply Classical.byContradiction
    intro h2
    exact h (mem_ext (fun c _ => ⟨fun z => absurd ⟨c, z⟩ h2, fun z => absurd z (mem_0 c)⟩))
  · intro ⟨c, hc⟩ e
    rw [e] at hc
    exact mem_0 c hc
/-- how many cards the set has -/
def pop (x : Int64) : Nat := pN (xN x) 64
theorem bc_is (x : Int64) : f_bc x = nI (pop x) := bc_pop x
theorem pop_le (x : Int64) : pop x ≤ 64 := by
  have h : ∀ n, pN (xN x) n ≤ n := by
    intro n
    induction n with
    | zero => exact Nat.le_refl 0
    | succ n ih =>
      rw [pN_S]
      have := bN_lt (xN x) n
      omega
  exact h 64
/-- the sum over the cards below n of 1 where the card is in -/
theorem pN_mem (x : Int64) (n : Nat) [Decidable (mem x n)] : pN (xN x) (n + 1) = pN (xN x) n + (if mem x n then 1 else 0) := by
  rw [pN_S]
  congr 1
  have := bN_lt (xN x) n
  split
  · rename_i h
    exact (tb_bN _ _).mp h
  · rename_i h
    have : ¬ bN (xN x) n = 1 := fun z => h ((tb_bN _ _).mpr z)
    omega
theorem pN_add (x : Int64) {d : Nat} (hd : d < 64) (hx : ¬ mem x d) : ∀ n, pN (xN (x ||| jl 1 (nI d))) n = pN (xN x) n + (if d < n then 1 else 0)
  | 0 => rfl
  | n + 1 => by
    rw [pN_S, pN_S, pN_add x hd hx n]
    have h1 : bN (xN (x ||| jl 1 (nI d))) n = 1 ↔ (bN (xN x) n = 1 ∨ n = d) := by
      rw [← tb_bN, ← tb_bN]
      have := mem_or x (jl 1 (nI d)) n
      rw [mem_bit hd] at this
      exact this
    have h2 := bN_lt (xN (x ||| jl 1 (nI d))) n
    have h3 := bN_lt (xN x) n
    by_cases e : n = d
    · subst e
      have h4 : bN (xN (x ||| jl 1 (nI n))) n = 1 := h1.mpr (Or.inr rfl)
      have h5 : ¬ bN (xN x) n = 1 := fun z => hx ((tb_bN _ _).mpr z)
      rw [h4, if_neg (Nat.lt_irrefl _), if_pos (Nat.lt_succ_self _)]
      omega
    · have h4 : bN (xN (x ||| jl 1 (nI d))) n = bN (xN x) n := by
        by_cases z : bN (xN x) n = 1
        · rw [z]; exact h1.mpr (Or.inl z)
        · have : ¬ bN (xN (x ||| jl 1 (nI d))) n = 1 := fun w => (h1.mp w).elim z e
          omega
      rw [h4]
      have h6 : (d < n + 1) = (d < n) := by
        apply propext
        omega
      simp only [h6]
      omega
theorem pop_add {x : Int64} {d : Nat} (hd : d < 64) (hx : ¬ mem x d) : pop (x ||| jl 1 (nI d)) = pop x + 1 := by
  unfold pop
  rw [pN_add x hd hx 64, if_pos hd]
theorem pop_0 : pop 0 = 0 := by decide +kernel
/-- the set of a list of cards -/
def cset : List Int32 → Int64
  | [] => 0
  | k :: r => cset r ||| jl 1 k
theorem cset_mem : ∀ (L : List Int32), (∀ k ∈ L, vp_in k 52) → ∀ c, mem (cset L) c ↔ nI c ∈ L ∧ c < 52
  | [], _, c => ⟨fun h => absurd h (mem_0 c), fun h => absurd h.1 (List.not_mem_nil)⟩
  | k :: r, h, c => by
    obtain ⟨j, hj, e⟩ := vp_in_of (h k List.mem_cons_self) (by decide)
    rw [cset, mem_or, cset_mem r (fun z hz => h z (List.mem_cons_of_mem _ hz)), e, mem_bit (by omega), List.mem_cons]
    constructor
    · intro z
      rcases z with z | z
      · exact ⟨Or.inr z.1, z.2⟩
      · rw [z]; exact ⟨Or.inl rfl, hj⟩
    · intro ⟨z, z2⟩
      rcases z with z | z
      · exact Or.inr ((nI_eq (by omega) (by omega)).mp z)
      · exact Or.inl ⟨z, z2⟩
theorem cset_pop : ∀ (L : List Int32), (∀ k ∈ L, vp_in k 52) → L.Nodup → pop (cset L) = L.length
  | [], _, _ => pop_0
  | k :: r, h, hn => by
    obtain ⟨j, hj, e⟩ := vp_in_of (h k List.mem_cons_self) (by decide)
    have hr := fun z hz => h z (List.mem_cons_of_mem k hz)
    rw [cset, e, pop_add (by omega) (fun z => ?_), cset_pop r hr (List.nodup_cons.mp hn).2]
    · rfl
    · have := ((cset_mem r hr j).mp z).1
      rw [← e] at this
      exact (List.nodup_cons.mp hn).1 this
