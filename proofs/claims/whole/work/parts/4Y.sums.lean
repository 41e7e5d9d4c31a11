/-! wins and shares: the sums over the cards that can come -/
def accL (F : Nat → Int32) : Int32 → List Nat → Int32
  | a, [] => a
  | a, c :: L => accL F (a + F c) L
theorem accL_0 (F : Nat → Int32) : ∀ (L : List Nat) (a : Int32), accL F a L = a + accL F 0 L
  | [], a => (Int32.add_zero a).symm
  | c :: L, a => by
    show accL F (a + F c) L = a + accL F (0 + F c) L
    rw [accL_0 F L (a + F c), accL_0 F L (0 + F c), Int32.zero_add, Int32.add_assoc]
theorem accL_cong {F G : Nat → Int32} : ∀ (L : List Nat) (a : Int32), (∀ c ∈ L, F c = G c) → accL F a L = accL G a L
  | [], a, _ => rfl
  | c :: L, a, h => by
    show accL F (a + F c) L = accL G (a + G c) L
    rw [h c List.mem_cons_self]
    exact accL_cong L _ (fun d hd => h d (List.mem_cons_of_mem _ hd))
/-- over the pairs of a list -/
def accP (F : Nat → Nat → Int32) : Int32 → List Nat → Int32
  | a, [] => a
  | a, c :: L => accP F (accL (F c) a L) L
theorem accP_cong {F G : Nat → Nat → Int32} : ∀ (L : List Nat) (a : Int32), L.Nodup → (∀ c ∈ L, ∀ d ∈ L, c ≠ d → F c d = G c d) → accP F a L = accP G a L
  | [], a, _, _ => rfl
  | c :: L, a, hn, h => by
    have h2 := List.nodup_cons.mp hn
    show accP F (accL (F c) a L) L = accP G (accL (G c) a L) L
    rw [accL_cong L a (fun d hd => h c List.mem_cons_self d (List.mem_cons_of_mem _ hd) (fun e => h2.1 (e ▸ hd)))]
    exact accP_cong L _ h2.2 (fun x hx y hy => h x (List.mem_cons_of_mem _ hx) y (List.mem_cons_of_mem _ hy))
theorem sl_cong {C : Nat → Nat} {b K M : Nat} : ∀ n, n ≤ b → (∀ i, b - n ≤ i → i < b → (K.testBit i = true ↔ M.testBit i = true)) → sl C b K n = sl C b M n
  | 0, _, _ => rfl
  | n + 1, hn, h => by
    have ih := sl_cong (C := C) (K := K) (M := M) n (by omega) (fun i h1 h2 => h i (by omega) h2)
    have hh := h (b - (n + 1)) (by omega) (by omega)
    unfold sl
    rw [ih]
    by_cases e : K.testBit (b - (n + 1)) = true
    · rw [if_pos e, if_pos (hh.mp e)]
    · rw [if_neg e, if_neg (fun z => e (hh.mpr z))]
/-- nothing of the set lies below: the rest is the whole -/
theorem sl_low {C : Nat → Nat} {b K : Nat} : ∀ m n, n + m ≤ b → (∀ i, b - (n + m) ≤ i → i < b - n → ¬ K.testBit i = true) → sl C b K (n + m) = sl C b K n
  | 0, n, _, _ => rfl
  | m + 1, n, hn, h => by
    have ih := sl_low (C := C) (K := K) m n (by omega) (fun i h1 h2 => h i (by omega) h2)
    have e : sl C b K (n + (m + 1)) = if K.testBit (b - (n + m + 1)) = true then C (b - (n + m + 1)) :: sl C b K (n + m) else sl C b K (n + m) := rfl
    rw [e, if_neg (h (b - (n + m + 1)) (by omega) (by omega)), ih]
abbrev fL (r : Int64) (n : Nat) : List Nat := sl (fun i => i) 52 (xN r) n
theorem mem_del {r : Int64} {c : Nat} (hc : c < 64) (hm : mem r c) (d : Nat) : mem (r &&& ((r &&& jl 1 (nI c)) ^^^ -1)) d ↔ mem r d ∧ d ≠ c := by
  rw [mem_and, (and_bit hc).2 hm]
  constructor
  · intro ⟨h1, h2⟩
    rw [mem_not _ (mem_lt h1), mem_bit hc] at h2
    exact ⟨h1, h2⟩
  · intro ⟨h1, h2⟩
    exact ⟨h1, by rw [mem_not _ (mem_lt h1), mem_bit hc]; exact h2⟩
theorem cb_1 {G : Int64 → Int64 → Int32} {g : Int64 → Int32} (hG : ∀ x y, G x y = g x) (B : Int64) (r0 : Int64) : ∀ (n : Nat) (a : Int32) (r : Int64), n ≤ 52 → (∀ d, 52 - n ≤ d → d < 52 → (mem r d ↔ mem r0 d)) → cb_lp G B n a r = accL (fun c => g (B ||| jl 1 (nI c))) a (fL r0 n) := by
  intro n
  induction n with
  | zero =>
    intro a r _ _
    rfl
  | succ n ih =>
    intro a r hn hr
    have hc : 52 - (n + 1) < 64 := by omega
    have h0 := hr (52 - (n + 1)) (by omega) (by omega)
    unfold cb_lp fL sl
    by_cases hm : mem r (52 - (n + 1))
    · rw [if_neg (fun z => ((and_bit hc).1.mp z) hm), if_pos (show (xN r0).testBit (52 - (n + 1)) = true from h0.mp hm), hG, (and_bit hc).2 hm]
      have := ih (a + g (B ||| jl 1 (nI (52 - (n + 1))))) (r &&& (jl 1 (nI (52 - (n + 1))) ^^^ -1)) (by omega) (fun d h1 h2 => by
        rw [← (and_bit hc).2 hm, mem_del hc hm, hr d (by omega) h2]
        exact ⟨fun z => z.1, fun z => ⟨z, by omega⟩⟩)
      exact this
    · rw [if_pos ((and_bit hc).1.mpr hm), if_neg (show ¬ (xN r0).testBit (52 - (n + 1)) = true from fun z => hm (h0.mpr z))]
      exact ih a r (by omega) (fun d h1 h2 => hr d (by omega) h2)
theorem cb_2 {G : Int64 → Int64 → Int32} {g : Int64 → Int32} (hG : ∀ x y, G x y = g x) (B : Int64) (r0 : Int64) (h52 : in52 r0) : ∀ (n : Nat) (a : Int32) (r : Int64), n ≤ 52 → (∀ d, mem r d ↔ 52 - n ≤ d ∧ mem r0 d) → cb_lp (fun x y => cb_lp G x 52 0 y) B n a r = accP (fun c d => g (B ||| jl 1 (nI c) ||| jl 1 (nI d))) a (fL r0 n) := by
  intro n
  induction n with
  | zero =>
    intro a r _ _
    rfl
  | succ n ih =>
    intro a r hn hr
    have hc : 52 - (n + 1) < 64 := by omega
    have h0 := hr (52 - (n + 1))
    unfold cb_lp fL sl
    by_cases hm : mem r (52 - (n + 1))
    · have hm0 := (h0.mp hm).2
      have hr' : ∀ d, mem (r &&& (jl 1 (nI (52 - (n + 1))) ^^^ -1)) d ↔ 52 - n ≤ d ∧ mem r0 d := by
        intro d
        rw [← (and_bit hc).2 hm, mem_del hc hm, hr d]
        constructor
        · intro ⟨⟨h1, h2⟩, h3⟩
          exact ⟨by omega, h2⟩
        · intro ⟨h1, h2⟩
          exact ⟨⟨by omega, h2⟩, by omega⟩
      have e1 : cb_lp G (B ||| jl 1 (nI (52 - (n + 1)))) 52 0 (r &&& (jl 1 (nI (52 - (n + 1))) ^^^ -1)) = accL (fun d => g (B ||| jl 1 (nI (52 - (n + 1))) ||| jl 1 (nI d))) 0 (fL r0 n) := by
        rw [cb_1 hG _ (r &&& (jl 1 (nI (52 - (n + 1))) ^^^ -1)) 52 0 _ (Nat.le_refl _) (fun d _ _ => Iff.rfl)]
        congr 1
        have l1 : fL (r &&& (jl 1 (nI (52 - (n + 1))) ^^^ -1)) (n + (52 - n)) = fL (r &&& (jl 1 (nI (52 - (n + 1))) ^^^ -1)) n := sl_low (52 - n) n (by omega) (fun i h1 h2 z => by
          have := ((hr' i).mp z).1
          omega)
        rw [show n + (52 - n) = 52 by omega] at l1
        rw [l1]
        refine sl_cong n (by omega) (fun i h1 h2 => ?_)
        exact ⟨fun z => ((hr' i).mp z).2, fun z => (hr' i).mpr ⟨h1, z⟩⟩
      rw [if_neg (fun z => ((and_bit hc).1.mp z) hm), if_pos (show (xN r0).testBit (52 - (n + 1)) = true from hm0), (and_bit hc).2 hm]
      show cb_lp (fun x y => cb_lp G x 52 0 y) B n (a + cb_lp G (B ||| jl 1 (nI (52 - (n + 1)))) 52 0 (r &&& (jl 1 (nI (52 - (n + 1))) ^^^ -1))) (r &&& (jl 1 (nI (52 - (n + 1))) ^^^ -1)) = accP _ (accL (fun d => g (B ||| jl 1 (nI (52 - (n + 1))) ||| jl 1 (nI d))) a (fL r0 n)) (fL r0 n)
      rw [e1, accL_0 _ _ a]
      exact ih _ _ (by omega) hr'
    · have hm0 : ¬ mem r0 (52 - (n + 1)) := fun z => hm (h0.mpr ⟨Nat.le_refl _, z⟩)
      rw [if_pos ((and_bit hc).1.mpr hm), if_neg (show ¬ (xN r0).testBit (52 - (n + 1)) = true from hm0)]
      refine ih a r (by omega) (fun d => ?_)
      rw [hr d]
      constructor
      · intro ⟨h1, h2⟩
        refine ⟨?_, h2⟩
        apply Classical.byContradiction
        intro h3
        have e : d = 52 - (n + 1) := by omega
        rw [e] at h2
        exact hm0 h2
      · intro ⟨h1, h2⟩
        exact ⟨by omega, h2⟩
/-! the model's sums -/
theorem kn_at (x : Int32) {q : Nat} (hq : q < 6) : ∀ (n : Nat) (w y : Nat → Int32), n ≤ 6 → (kn_lp x n w y).1 q = (if 6 - n ≤ q ∧ jri x (nI q) &&& 1 = 1 ∧ x &&& (x - 1) = 0 then w q + 1 else w q) ∧ (kn_lp x n w y).2 q = (if 6 - n ≤ q ∧ jri x (nI q) &&& 1 = 1 ∧ ¬ x &&& (x - 1) = 0 then y q + 1 else y q) := by
  intro n
  induction n with
  | zero =>
    intro w y _
    rw [if_neg (by omega), if_neg (by omega)]
    exact ⟨rfl, rfl⟩
  | succ n ih =>
    intro w y hn
    unfold kn_lp
    rw [nI_clamp (by omega)]
    by_cases e : q = 6 - (n + 1)
    · have f1 : ¬ (6 - n ≤ q) := by omega
      have f2 : 6 - (n + 1) ≤ q := by omega
      by_cases hb : jri x (nI (6 - (n + 1))) &&& 1 = 1
      · rw [if_pos hb]
        have hb' : jri x (nI q) &&& 1 = 1 := by rw [e]; exact hb
        by_cases hs : x &&& (x - 1) = 0
        · rw [if_pos hs]
          obtain ⟨i1, i2⟩ := ih (upd w (6 - (n + 1)) (w (6 - (n + 1)) + 1)) y (by omega)
          refine ⟨i1.trans ?_, i2.trans ?_⟩
          · rw [if_neg (fun z => f1 z.1), if_pos ⟨f2, hb', hs⟩, ← e, pk_us]
          · rw [if_neg (fun z => f1 z.1), if_neg (fun z => z.2.2 hs)]
        · rw [if_neg hs]
          obtain ⟨i1, i2⟩ := ih w (upd y (6 - (n + 1)) (y (6 - (n + 1)) + 1)) (by omega)
          refine ⟨i1.trans ?_, i2.trans ?_⟩
          · rw [if_neg (fun z => f1 z.1), if_neg (fun z => hs z.2.2)]
          · rw [if_neg (fun z => f1 z.1), if_pos ⟨f2, hb', hs⟩, ← e, pk_us]
      · rw [if_neg hb]
        have hb' : ¬ jri x (nI q) &&& 1 = 1 := by rw [e]; exact hb
        obtain ⟨i1, i2⟩ := ih w y (by omega)
        refine ⟨i1.trans ?_, i2.trans ?_⟩
        · rw [if_neg (fun z => f1 z.1), if_neg (fun z => hb' z.2.1)]
        · rw [if_neg (fun z => f1 z.1), if_neg (fun z => hb' z.2.1)]
    · have f : ∀ P : Prop, (6 - (n + 1) ≤ q ∧ P) ↔ (6 - n ≤ q ∧ P) := fun P => ⟨fun z => ⟨by have := z.1; omega, z.2⟩, fun z => ⟨by have := z.1; omega, z.2⟩⟩
      simp only [f]
      by_cases hb : jri x (nI (6 - (n + 1))) &&& 1 = 1
      · rw [if_pos hb]
        by_cases hs : x &&& (x - 1) = 0
        · rw [if_pos hs]
          obtain ⟨i1, i2⟩ := ih (upd w (6 - (n + 1)) (w (6 - (n + 1)) + 1)) y (by omega)
          rw [i1, i2, pk_un e]
          exact ⟨rfl, rfl⟩
        · rw [if_neg hs]
          obtain ⟨i1, i2⟩ := ih w (upd y (6 - (n + 1)) (y (6 - (n + 1)) + 1)) (by omega)
          rw [i1, i2, pk_un e]
          exact ⟨rfl, rfl⟩
      · rw [if_neg hb]
        exact ih w y (by omega)
/-- what the class counts for one board -/
def ocm (k w X : Int32) : Int32 := if f_outcome k w X = 0 then 0 else 1
theorem oc_ck : ∀ X, X < 64 → ∀ q, q < 6 → ocm (nI q) 0 (nI X) = (if jri (nI X) (nI q) &&& 1 = 1 ∧ nI X &&& (nI X - 1) = 0 then 1 else 0) ∧ ocm (nI q) 1 (nI X) = (if jri (nI X) (nI q) &&& 1 = 1 ∧ ¬ nI X &&& (nI X - 1) = 0 then 1 else 0) := by decide +kernel
theorem cntq {X q : Nat} (hX : X < 64) (hq : q < 6) (w y : Nat → Int32) : (k_cnt (nI X) w y).1 q = w q + ocm (nI q) 0 (nI X) ∧ (k_cnt (nI X) w y).2 q = y q + ocm (nI q) 1 (nI X) := by
  obtain ⟨i1, i2⟩ := kn_at (nI X) hq 6 w y (Nat.le_refl _)
  obtain ⟨o1, o2⟩ := oc_ck X hX q hq
  have f : ∀ P : Prop, (6 - 6 ≤ q ∧ P) ↔ P := fun P => ⟨fun z => z.2, fun z => ⟨by omega, z⟩⟩
  simp only [f] at i1 i2
  unfold k_cnt
  rw [i1, i2, o1, o2]
  constructor
  · split
    · rfl
    · exact (Int32.add_zero _).symm
  · split
    · rfl
    · exact (Int32.add_zero _).symm
theorem kz_at (q : Nat) (hq : q < 6) : ∀ (n : Nat) (f : Nat → Int32), n ≤ 6 → kz6 n f q = if 6 - n ≤ q then 0 else f q := by
  intro n
  induction n with
  | zero =>
    intro f _
    rw [if_neg (by omega)]
    rfl
  | succ n ih =>
    intro f hn
    unfold kz6
    rw [nI_clamp (by omega), ih _ (by omega)]
    by_cases e : q = 6 - (n + 1)
    · rw [if_neg (by omega), if_pos (by omega), e, pk_us]
    · rw [pk_un e]
      by_cases h : 6 - n ≤ q
      · rw [if_pos h, if_pos (by omega)]
      · rw [if_neg h, if_neg (by omega)]
theorem kz_0 {q : Nat} (hq : q < 6) (f : Nat → Int32) : kz6 6 f q = 0 := by
  rw [kz_at q hq 6 f (Nat.le_refl _), if_pos (by omega)]
