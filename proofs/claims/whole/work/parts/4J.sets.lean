/-! sets of cards: their counts, and what they are worth -/
/-- 1 if the card of suit j and rank r is in -/
def u1 (x : Int64) (j r : Nat) : Nat := bN (xN x) (4 * r + j)
/-- how many of rank r -/
def cR (x : Int64) (r : Nat) : Nat := u1 x 0 r + u1 x 1 r + u1 x 2 r + u1 x 3 r
def in52 (x : Int64) : Prop := ∀ c, mem x c → c < 52
theorem u1_lt (x : Int64) (j r : Nat) : u1 x j r < 2 := bN_lt _ _
theorem u1_mem (x : Int64) (j r : Nat) : u1 x j r = 1 ↔ mem x (4 * r + j) := (tb_bN _ _).symm
theorem cR_4 (x : Int64) (r : Nat) : cR x r ≤ 4 := by
  have h0 := u1_lt x 0 r
  have h1 := u1_lt x 1 r
  have h2 := u1_lt x 2 r
  have h3 := u1_lt x 3 r
  unfold cR
  omega
theorem pN_4 (x : Int64) : ∀ k, pN (xN x) (4 * k) = cS (cR x) k
  | 0 => rfl
  | k + 1 => by
    rw [show 4 * (k + 1) = 4 * k + 1 + 1 + 1 + 1 by omega, pN_S, pN_S, pN_S, pN_S, pN_4 x k]
    show _ = cS (cR x) k + (bN (xN x) (4 * k + 0) + bN (xN x) (4 * k + 1) + bN (xN x) (4 * k + 2) + bN (xN x) (4 * k + 3))
    simp only [Nat.add_assoc, Nat.add_zero]
theorem pop_cS {x : Int64} (h : in52 x) : pop x = cS (cR x) 13 := by
  rw [← pN_4 x 13]
  have hz : ∀ n, pN (xN x) (52 + n) = pN (xN x) 52 := by
    intro n
    induction n with
    | zero => rfl
    | succ n ih =>
      rw [← Nat.add_assoc, pN_S, ih]
      have h1 := bN_lt (xN x) (52 + n)
      have h2 : ¬ bN (xN x) (52 + n) = 1 := fun z => absurd (h _ ((tb_bN _ _).mpr z)) (by omega)
      omega
  exact hz 12
theorem cS_add (f g : Nat → Nat) : ∀ k, cS (fun r => f r + g r) k = cS f k + cS g k
  | 0 => rfl
  | k + 1 => by
    have ih := cS_add f g k
    simp only [cS]
    omega
theorem cS_cong {f g : Nat → Nat} : ∀ k, (∀ r, r < k → f r = g r) → cS f k = cS g k
  | 0, _ => rfl
  | k + 1, h => by
    have ih := cS_cong k (fun r hr => h r (by omega))
    simp only [cS]
    rw [ih, h k (by omega)]
theorem cS_suits (x : Int64) (k : Nat) : cS (cR x) k = cS (u1 x 0) k + cS (u1 x 1) k + cS (u1 x 2) k + cS (u1 x 3) k := by
  have e : cR x = fun r => u1 x 0 r + u1 x 1 r + u1 x 2 r + u1 x 3 r := rfl
  rw [e, cS_add (fun r => u1 x 0 r + u1 x 1 r + u1 x 2 r) (fun r => u1 x 3 r), cS_add (fun r => u1 x 0 r + u1 x 1 r) (fun r => u1 x 2 r), cS_add (fun r => u1 x 0 r) (fun r => u1 x 1 r)]
theorem u1_cR (x : Int64) {j : Nat} (hj : j < 4) (r : Nat) : u1 x j r ≤ cR x r := by
  unfold cR
  obtain h | h | h | h : j = 0 ∨ j = 1 ∨ j = 2 ∨ j = 3 := by omega
  all_goals
    subst h
    omega
theorem cD_suit (x : Int64) {j : Nat} (hj : j < 4) : ∀ k, cS (u1 x j) k ≤ cD (cR x) k
  | 0 => Nat.le_refl _
  | k + 1 => by
    have ih := cD_suit x hj k
    have h1 := u1_cR x hj k
    have h2 := u1_lt x j k
    simp only [cS, cD]
    split <;> omega
/-- the set x with the card c more -/
def adds (x : Int64) (c : Nat) (y : Int64) : Prop := ¬ mem x c ∧ ∀ d, mem y d ↔ mem x d ∨ d = c
theorem adds_pop {x y : Int64} {c : Nat} (h : adds x c y) : pop y = pop x + 1 := by
  have hc : c < 64 := mem_lt ((h.2 c).mpr (Or.inr rfl))
  rw [← pop_add hc h.1]
  congr 1
  apply mem_ext
  intro d _
  rw [mem_or, mem_bit hc]
  exact h.2 d
theorem adds_of {y : Int64} {c : Nat} (h : mem y c) : ∃ x, adds x c y := by
  have hc := mem_lt h
  refine ⟨y &&& (jl 1 (nI c) ^^^ -1), ?_, fun d => ?_⟩
  · rw [mem_and, mem_not _ hc, mem_bit hc]
    exact fun z => z.2 rfl
  · rw [mem_and]
    constructor
    · intro hd
      by_cases e : d = c
      · exact Or.inr e
      · exact Or.inl ⟨hd, by rw [mem_not _ (mem_lt hd), mem_bit hc]; exact e⟩
    · intro hd
      rcases hd with hd | hd
      · exact hd.1
      · rw [hd]; exact h
theorem adds_u1 {x y : Int64} {c : Nat} (h : adds x c y) (j r : Nat) : u1 y j r = u1 x j r + (if 4 * r + j = c then 1 else 0) := by
  have h1 := u1_lt x j r
  have h2 := u1_lt y j r
  have h3 := u1_mem x j r
  have h4 := u1_mem y j r
  have h5 := h.2 (4 * r + j)
  by_cases e : 4 * r + j = c
  · rw [if_pos e]
    have h6 : u1 y j r = 1 := h4.mpr (h5.mpr (Or.inr e))
    have h7 : ¬ u1 x j r = 1 := fun z => h.1 (e ▸ h3.mp z)
    omega
  · rw [if_neg e]
    by_cases h6 : u1 x j r = 1
    · have h7 : u1 y j r = 1 := h4.mpr (h5.mpr (Or.inl (h3.mp h6)))
      omega
    · have h7 : ¬ u1 y j r = 1 := fun z => (h5.mp (h4.mp z)).elim (fun w => h6 (h3.mpr w)) e
      omega
theorem adds_cR {x y : Int64} {c : Nat} (h : adds x c y) (r : Nat) : cR y r = cR x r + (if r = c / 4 then 1 else 0) := by
  unfold cR
  rw [adds_u1 h 0, adds_u1 h 1, adds_u1 h 2, adds_u1 h 3]
  by_cases e : r = c / 4
  · rw [if_pos e]
    obtain h | h | h | h : c = 4 * r + 0 ∨ c = 4 * r + 1 ∨ c = 4 * r + 2 ∨ c = 4 * r + 3 := by omega
    · rw [if_pos h.symm, if_neg (by omega), if_neg (by omega), if_neg (by omega)]
      omega
    · rw [if_neg (by omega), if_pos h.symm, if_neg (by omega), if_neg (by omega)]
      omega
    · rw [if_neg (by omega), if_neg (by omega), if_pos h.symm, if_neg (by omega)]
      omega
    · rw [if_neg (by omega), if_neg (by omega), if_neg (by omega), if_pos h.symm]
      omega
  · rw [if_neg e, if_neg (by omega), if_neg (by omega), if_neg (by omega), if_neg (by omega)]
    omega
theorem adds_dc {x y : Int64} {c : Nat} (h : adds x c y) : cR x = dc (cR y) (c / 4) := by
  funext r
  have h1 := adds_cR h r
  unfold dc
  by_cases e : r = c / 4
  · rw [if_pos e] at h1 ⊢
    omega
  · rw [if_neg e] at h1 ⊢
    omega
theorem adds_uc {x y : Int64} {c : Nat} (h : adds x c y) {j : Nat} (hj : j < 4) (e : c % 4 = j) : u1 x j = dc (u1 y j) (c / 4) := by
  funext r
  have h1 := adds_u1 h j r
  unfold dc
  by_cases e2 : r = c / 4
  · rw [if_pos (by omega)] at h1
    rw [if_pos e2]
    omega
  · rw [if_neg (by omega)] at h1
    rw [if_neg e2]
    omega
theorem adds_un {x y : Int64} {c : Nat} (h : adds x c y) {j : Nat} (hj : j < 4) (e : ¬ c % 4 = j) : u1 x j = u1 y j := by
  funext r
  have h1 := adds_u1 h j r
  rw [if_neg (by omega)] at h1
  omega
theorem cS_dc (c : Nat → Nat) (r : Nat) (h1 : 1 ≤ c r) : ∀ k, cS (dc c r) k + (if r < k then 1 else 0) = cS c k
  | 0 => rfl
  | k + 1 => by
    have ih := cS_dc c r h1 k
    simp only [cS]
    by_cases e : k = r
    · subst e
      have e2 : dc c k k = c k - 1 := if_pos rfl
      rw [e2]
      rw [if_neg (by omega)] at ih
      rw [if_pos (by omega)]
      omega
    · have e2 : dc c r k = c k := if_neg e
      rw [e2]
      by_cases h2 : r < k
      · rw [if_pos h2] at ih
        rw [if_pos (by omega)]
        omega
      · rw [if_neg h2] at ih
        rw [if_neg (by omega)]
        omega
/-! five or more of one suit -/
def pc (S k : Nat) : Nat := Nat.rec 0 (fun r ih => Nat.add ih (Nat.mod (Nat.div S (Nat.pow 2 r)) 2)) k
def moF (g S : Nat) (k : Nat) : Bool → Bool :=
  Nat.rec (motive := fun _ => Bool → Bool) (fun a => a) (fun r ih a => fo (Nat.pow 2 r) (fun p => bif bt S p then fo (FLN (Nat.sub S p)) (fun e => bif Nat.ble e g then ih (bif Nat.beq e g then true else a) else false) else ih a)) k
def flck (S : Nat) : Bool :=
  fo (pc S 13) (fun n => bif Nat.ble 5 n then fo (FLN S) (fun g => (Nat.ble 5863 g && Nat.ble (Nat.succ g) 7462) && (bif Nat.beq n 5 then true else moF g S 13 false)) else true)
theorem moF_ok (g S : Nat) : ∀ (k : Nat) (a : Bool), moF g S k a = true → (∀ r, r < k → bt S (2 ^ r) = true → FLN (S - 2 ^ r) ≤ g) ∧ (a = true ∨ ∃ r, r < k ∧ bt S (2 ^ r) = true ∧ FLN (S - 2 ^ r) = g)
  | 0, a, h => ⟨fun r hr => absurd hr (by omega), Or.inl h⟩
  | k + 1, a, h => by
    have e : moF g S (k + 1) a = fo (Nat.pow 2 k) (fun p => bif bt S p then fo (FLN (Nat.sub S p)) (fun e => bif Nat.ble e g then moF g S k (bif Nat.beq e g then true else a) else false) else moF g S k a) := rfl
    rw [e, fo_eq, fo_eq] at h
    have h : (bif bt S (2 ^ k) then bif Nat.ble (FLN (S - 2 ^ k)) g then moF g S k (bif Nat.beq (FLN (S - 2 ^ k)) g then true else a) else false else moF g S k a) = true := h
    cases hb : bt S (2 ^ k) with
    | false =>
      rw [hb] at h
      obtain ⟨i1, i2⟩ := moF_ok g S k a h
      refine ⟨fun r hr hr2 => ?_, i2.imp id (fun ⟨r, h1, h2⟩ => ⟨r, by omega, h2⟩)⟩
      by_cases hrk : r = k
      · rw [hrk, hb] at hr2
        exact absurd hr2 (by decide)
      · exact i1 r (by omega) hr2
    | true =>
      rw [hb] at h
      have h : (bif Nat.ble (FLN (S - 2 ^ k)) g then moF g S k (bif Nat.beq (FLN (S - 2 ^ k)) g then true else a) else false) = true := h
      cases hl : Nat.ble (FLN (S - 2 ^ k)) g with
      | false =>
        rw [hl] at h
        exact Bool.noConfusion h
      | true =>
        rw [hl] at h
        obtain ⟨i1, i2⟩ := moF_ok g S k _ h
        refine ⟨fun r hr hr2 => ?_, ?_⟩
        · by_cases hrk : r = k
          · rw [hrk]
            exact Nat.ble_eq.mp hl
          · exact i1 r (by omega) hr2
        · rcases i2 with i2 | ⟨r, h1, h2⟩
          · cases hq : Nat.beq (FLN (S - 2 ^ k)) g with
            | true => exact Or.inr ⟨k, by omega, hb, Nat.eq_of_beq_eq_true hq⟩
            | false =>
              rw [hq] at i2
              exact Or.inl i2
          · exact Or.inr ⟨r, by omega, h2⟩
theorem pc_cS {c : Nat → Nat} (hc : ∀ r, c r < 2) : ∀ k, k ≤ 13 → pc (sN c 1 13) k = cS c k
  | 0, _ => rfl
  | k + 1, hk => by
    have ih := pc_cS hc k (by omega)
    have e : pc (sN c 1 13) (k + 1) = pc (sN c 1 13) k + sN c 1 13 / 2 ^ k % 2 := rfl
    have hb := sN_bit c 1 k 13
    rw [Nat.testBit_eq_decide_div_mod_eq] at hb
    have h2 := hc k
    have h3 : sN c 1 13 / 2 ^ k % 2 < 2 := Nat.mod_lt _ (by decide)
    rw [e, ih]
    show _ = cS c k + c k
    congr 1
    by_cases h1 : 1 ≤ c k
    · have h5 : sN c 1 13 / 2 ^ k % 2 = 1 := by
        rw [decide_eq_true (show k < 13 ∧ 1 ≤ c k from ⟨by omega, h1⟩)] at hb
        exact of_decide_eq_true hb
      omega
    · have h5 : ¬ sN c 1 13 / 2 ^ k % 2 = 1 := by
        rw [decide_eq_false (show ¬ (k < 13 ∧ 1 ≤ c k) from fun z => h1 z.2)] at hb
        exact of_decide_eq_false hb
      omega
