/-! the model's keys are sorted; its search counts the lesser ones -/
def cN (p : Int32 → Bool) (f : Nat → Int32) : Nat → Nat
  | 0 => 0
  | n + 1 => cN p f n + (if p (f n) then 1 else 0)
theorem cN_upd (p : Int32 → Bool) (f : Nat → Int32) (i : Nat) (v : Int32) : ∀ n, i < n → cN p (upd f i v) n + (if p (f i) then 1 else 0) = cN p f n + (if p v then 1 else 0)
  | 0, h => absurd h (by omega)
  | n + 1, h => by
    unfold cN
    by_cases e : i = n
    · subst e
      rw [pk_us]
      have h2 : ∀ k, k ≤ i → cN p (upd f i v) k = cN p f k := by
        intro k
        induction k with
        | zero => intro _; rfl
        | succ k ih =>
          intro hk
          show cN p (upd f i v) k + _ = cN p f k + _
          rw [ih (by omega), pk_un (by omega)]
      rw [h2 i (Nat.le_refl _)]
      omega
    · rw [pk_un (show n ≠ i from fun z => e z.symm)]
      have := cN_upd p f i v n (by omega)
      omega
theorem cN_swap (p : Int32 → Bool) (f : Nat → Int32) (A B : Nat) (y : Int32) (hA : A < 7462) (hB : B < 7462) (hne : B ≠ A) : cN p (upd (upd f A (f B)) B y) 7462 = cN p (upd f A y) 7462 := by
  have h1 := cN_upd p (upd f A (f B)) B y 7462 hB
  rw [pk_un hne] at h1
  have h2 := cN_upd p f A (f B) 7462 hA
  have h3 := cN_upd p f A y 7462 hA
  omega
theorem ki_cN (p : Int32 → Bool) (G : Nat) (y : Int32) (hG : 0 < G) (hG2 : G ≤ 3000) : ∀ (i A : Nat) (f : Nat → Int32), A < 7462 → cN p (upd (ki_lp G y i A f).2 (ki_lp G y i A f).1 y) 7462 = cN p (upd f A y) 7462
  | 0, A, f, _ => rfl
  | i + 1, A, f, hA => by
    unfold ki_lp
    by_cases h1 : nI A < nI G
    · rw [if_pos h1]
    · rw [if_neg h1]
      have hGA := ki_ge h1 (by omega) hG2
      rw [pk_sub hGA, nI_clamp (by omega), nI_clamp (by omega)]
      by_cases h2 : f (A - G) ≤ y
      · rw [if_pos h2]
      · rw [if_neg h2, ki_cN p G y hG hG2 i (A - G) _ (by omega)]
        exact cN_swap p f A (A - G) y hA (by omega) (by omega)
theorem ins_cN (p : Int32 → Bool) (G k : Nat) (f : Nat → Int32) (hG : 0 < G) (hG2 : G ≤ 3000) (hk : k < 7462) : cN p (k_ins G k f) 7462 = cN p f 7462 := by
  unfold k_ins
  have hle := ki_le G (f (nI k).toNatClampNeg) k k f
  rw [nI_clamp (show k < 2 ^ 31 by omega)] at hle ⊢
  rw [nI_clamp (by omega), ki_cN p G (f k) hG hG2 k k f hk]
  have := cN_upd p f k (f k) 7462 hk
  omega
theorem kg_cN (p : Int32 → Bool) (G : Nat) (hG : 0 < G) (hG2 : G ≤ 3000) : ∀ (n : Nat) (f : Nat → Int32), n ≤ 7462 → cN p (kg_lp G n f) 7462 = cN p f 7462
  | 0, f, _ => rfl
  | n + 1, f, hn => by
    unfold kg_lp
    rw [kg_cN p G hG hG2 n _ (by omega), ins_cN p G _ f hG hG2 (by omega)]
theorem pass_cN (p : Int32 → Bool) {G : Nat} (hG : 0 < G) (hG2 : G ≤ 3000) (f : Nat → Int32) : cN p (k_pass G f) 7462 = cN p f 7462 := kg_cN p G hG hG2 (7462 - G) f (by omega)
theorem kS_S (n G : Nat) (f : Nat → Int32) : kS_lp (n + 1) G f = if nI G ≤ 0 then f else if nI G ≤ 2 then kS_lp n (G - 1) (k_pass G f) else kS_lp n (G / 3) (k_pass G f) := rfl
theorem kS_3 {n G : Nat} {f : Nat → Int32} (h1 : ¬ nI G ≤ 0) (h2 : ¬ nI G ≤ 2) {G' : Nat} (h3 : G / 3 = G') : kS_lp (n + 1) G f = kS_lp n G' (k_pass G f) := by
  rw [kS_S, if_neg h1, if_neg h2, h3]
theorem k_sort_eq (f : Nat → Int32) : k_sort f = k_pass 1 (k_pass 4 (k_pass 12 (k_pass 37 (k_pass 111 (k_pass 333 (k_pass 1000 (k_pass 3000 f))))))) := by
  unfold k_sort
  rw [show (3001 : Nat) = 2992 + 1 + 1 + 1 + 1 + 1 + 1 + 1 + 1 + 1 from rfl]
  rw [kS_3 (G' := 1000) (by decide) (by decide) (by decide), kS_3 (G' := 333) (by decide) (by decide) (by decide), kS_3 (G' := 111) (by decide) (by decide) (by decide), kS_3 (G' := 37) (by decide) (by decide) (by decide), kS_3 (G' := 12) (by decide) (by decide) (by decide), kS_3 (G' := 4) (by decide) (by decide) (by decide), kS_3 (G' := 1) (by decide) (by decide) (by decide), kS_S, if_neg (by decide), if_pos (by decide), kS_S, if_pos (by decide)]
theorem sort_cN (p : Int32 → Bool) (f : Nat → Int32) : cN p (k_sort f) 7462 = cN p f 7462 := by
  rw [k_sort_eq, pass_cN p (by decide) (by decide), pass_cN p (by decide) (by decide), pass_cN p (by decide) (by decide), pass_cN p (by decide) (by decide), pass_cN p (by decide) (by decide), pass_cN p (by decide) (by decide), pass_cN p (by decide) (by decide), pass_cN p (by decide) (by decide)]
/-- the inner loop with steps of one -/
theorem ki_1 (y : Int32) : ∀ (i A : Nat) (f : Nat → Int32), A ≤ i → A < 7462 → ∃ A' f', ki_lp 1 y i A f = (A', f') ∧ A' ≤ A ∧ (∀ j, j < A' ∨ A < j → f' j = f j) ∧ (∀ j, A' < j → j ≤ A → f' j = f (j - 1)) ∧ (∀ j, A' ≤ j → j < A → y < f j) ∧ (A' = 0 ∨ f (A' - 1) ≤ y)
  | 0, A, f, hA, _ => ⟨A, f, rfl, Nat.le_refl _, fun _ _ => rfl, fun j h1 h2 => absurd h2 (by omega), fun j h1 h2 => absurd h2 (by omega), Or.inl (by omega)⟩
  | i + 1, A, f, hA, hA2 => by
    unfold ki_lp
    by_cases h1 : nI A < nI 1
    · have : A < 1 := (nI_ltI (by omega) (by decide)).mp h1
      rw [if_pos h1]
      exact ⟨A, f, rfl, Nat.le_refl _, fun _ _ => rfl, fun j h1 h2 => absurd h2 (by omega), fun j h1 h2 => absurd h2 (by omega), Or.inl (by omega)⟩
    · rw [if_neg h1]
      have hGA : 1 ≤ A := ki_ge h1 (by omega) (by decide)
      rw [pk_sub hGA, nI_clamp (by omega), nI_clamp (by omega)]
      by_cases h2 : f (A - 1) ≤ y
      · rw [if_pos h2]
        exact ⟨A, f, rfl, Nat.le_refl _, fun _ _ => rfl, fun j h1 h2 => absurd h2 (by omega), fun j h1 h2 => absurd h2 (by omega), Or.inr h2⟩
      · rw [if_neg h2]
        obtain ⟨A', f', e, g1, g2, g3, g4, g5⟩ := ki_1 y i (A - 1) (upd f A (f (A - 1))) (by omega) (by omega)
        refine ⟨A', f', e, by omega, fun j hj => ?_, fun j hj hj2 => ?_, fun j hj hj2 => ?_, ?_⟩
        · rw [g2 j (by omega), pk_un (by omega)]
        · by_cases e2 : j = A
          · rw [e2, g2 A (by omega), pk_us]
          · rw [g3 j hj (by omega), pk_un (by omega)]
        · by_cases e2 : j = A - 1
          · rw [e2]; exact Int32.not_le.mp h2
          · have := g4 j hj (by omega)
            rw [pk_un (by omega)] at this
            exact this
        · rcases g5 with g5 | g5
          · exact Or.inl g5
          · rw [pk_un (by omega)] at g5
            exact Or.inr g5
def srt (f : Nat → Int32) (n : Nat) : Prop := ∀ i j, i ≤ j → j < n → f i ≤ f j
theorem ins_srt (k : Nat) (f : Nat → Int32) (hk : k < 7462) (h : srt f k) : srt (k_ins 1 k f) (k + 1) := by
  obtain ⟨A', f', e, g1, g2, g3, g4, g5⟩ := ki_1 (f k) k k f (Nat.le_refl _) hk
  unfold k_ins
  rw [nI_clamp (show k < 2 ^ 31 by omega), e]
  show srt (upd f' (nI A').toNatClampNeg (f k)) (k + 1)
  rw [nI_clamp (by omega)]
  have hv : ∀ j, j ≤ k → upd f' A' (f k) j = if j < A' then f j else if j = A' then f k else f (j - 1) := by
    intro j hj
    by_cases c1 : j < A'
    · rw [if_pos c1, pk_un (by omega), g2 j (Or.inl c1)]
    · rw [if_neg c1]
      by_cases c2 : j = A'
      · rw [if_pos c2, c2, pk_us]
      · rw [if_neg c2, pk_un c2, g3 j (by omega) hj]
  intro i j hij hj
  rw [hv i (by omega), hv j (by omega)]
  by_cases a1 : i < A'
  · rw [if_pos a1]
    by_cases b1 : j < A'
    · rw [if_pos b1]; exact h i j hij (by omega)
    · rw [if_neg b1]
      by_cases b2 : j = A'
      · rw [if_pos b2]
        rcases g5 with g5 | g5
        · omega
        · exact Int32.le_trans (h i (A' - 1) (by omega) (by omega)) g5
      · rw [if_neg b2]; exact h i (j - 1) (by omega) (by omega)
  · rw [if_neg a1, if_neg (show ¬ j < A' by omega)]
    by_cases a2 : i = A'
    · rw [if_pos a2]
      by_cases b2 : j = A'
      · rw [if_pos b2]; exact Int32.le_refl _
      · rw [if_neg b2]; exact Int32.le_of_lt (g4 (j - 1) (by omega) (by omega))
    · rw [if_neg a2, if_neg (show ¬ j = A' by omega)]
      exact h (i - 1) (j - 1) (by omega) (by omega)
theorem kg_srt : ∀ (n : Nat) (f : Nat → Int32), n ≤ 7461 → srt f (7462 - n) → srt (kg_lp 1 n f) 7462
  | 0, f, _, h => h
  | n + 1, f, hn, h => by
    unfold kg_lp
    refine kg_srt n _ (by omega) ?_
    have := ins_srt (7462 - (n + 1)) f (by omega) h
    rw [show 7462 - (n + 1) + 1 = 7462 - n by omega] at this
    exact this
theorem sort_srt (f : Nat → Int32) : srt (k_sort f) 7462 := by
  rw [k_sort_eq]
  generalize k_pass 4 (k_pass 12 (k_pass 37 (k_pass 111 (k_pass 333 (k_pass 1000 (k_pass 3000 f)))))) = g
  unfold k_pass
  refine kg_srt (7462 - 1) g (by decide) (fun i j hij hj => ?_)
  have : i = j := by omega
  rw [this]
  exact Int32.le_refl _
theorem kb_r (f : Nat → Int32) (k : Int32) (hf : srt f 7462) : ∀ (n a c : Nat), c - a ≤ n → a ≤ c → c ≤ 7462 → (∀ i, i < a → f i < k) → (∀ i, c ≤ i → i < 7462 → k ≤ f i) → ∃ r, kb_lp f k n a c = r ∧ r ≤ 7462 ∧ (∀ i, i < r → f i < k) ∧ ∀ i, r ≤ i → i < 7462 → k ≤ f i
  | 0, a, c, h1, h2, h3, h4, h5 => ⟨a, rfl, by omega, h4, fun i hi hi2 => h5 i (by omega) hi2⟩
  | n + 1, a, c, h1, h2, h3, h4, h5 => by
    unfold kb_lp
    by_cases hc : nI c ≤ nI a
    · rw [if_pos hc]
      have : c ≤ a := (nI_leI (by omega) (by omega)).mp hc
      exact ⟨a, rfl, by omega, h4, fun i hi hi2 => h5 i (by omega) hi2⟩
    · rw [if_neg hc, nI_clamp (by omega)]
      have hlt := kb_lt hc (by omega)
      by_cases hm : k ≤ f ((a + c) / 2)
      · rw [if_pos hm]
        exact kb_r f k hf n a ((a + c) / 2) (by omega) (by omega) (by omega) h4 (fun i hi hi2 => Int32.le_trans hm (hf _ i hi hi2))
      · rw [if_neg hm]
        have hm := Int32.not_le.mp hm
        exact kb_r f k hf n ((a + c) / 2 + 1) c (by omega) (by omega) h3 (fun i hi => Int32.lt_of_le_of_lt (hf i ((a + c) / 2) (by omega) (by omega)) hm) h5
theorem cN_split (p : Int32 → Bool) (f : Nat → Int32) (r : Nat) (h1 : ∀ i, i < r → p (f i) = true) : ∀ n, (∀ i, r ≤ i → i < n → p (f i) = false) → cN p f n = min r n
  | 0, _ => by unfold cN; omega
  | n + 1, h2 => by
    unfold cN
    rw [cN_split p f r h1 n (fun i hi hi2 => h2 i hi (by omega))]
    by_cases e : n < r
    · rw [h1 n e, if_pos rfl]; omega
    · rw [h2 n (by omega) (by omega)]
      simp
      omega
theorem cN_list (k : Int32) (L : List Int32) (f : Nat → Int32) (hf : ∀ i, i < L.length → f i = L.getD i 0) : cN (fun v => decide (v < k)) f L.length = L.countP (fun v => decide (v < k)) := by
  have h : ∀ n, n ≤ L.length → cN (fun v => decide (v < k)) f n = (L.take n).countP (fun v => decide (v < k)) := by
    intro n
    induction n with
    | zero => intro _; rfl
    | succ n ih =>
      intro hn
      unfold cN
      have e : L[n]? = some (f n) := by
        rw [hf n (by omega), List.getD_eq_getElem?_getD, List.getElem?_eq_getElem (show n < L.length by omega)]
        rfl
      rw [ih (by omega), List.take_succ, List.countP_append, e]
      congr 1
      simp [List.countP_cons]
  have := h L.length (Nat.le_refl _)
  rw [List.take_length] at this
  exact this
theorem below_L {k0 : Nat → Int32} {L : List Int32} (hL : L.length = 7462) (hk0 : ∀ i, i < 7462 → k0 i = L.getD i 0) (k : Int32) : k_below (k_sort k0) k = nI (L.countP (fun v => decide (v < k))) := by
  obtain ⟨r, e, hr, g1, g2⟩ := kb_r (k_sort k0) k (sort_srt k0) 7462 0 7462 (by omega) (by omega) (by omega) (fun i hi => absurd hi (by omega)) (fun i hi hi2 => absurd hi2 (by omega))
  unfold k_below
  rw [e]
  refine congrArg nI ?_
  have h1 := cN_split (fun v => decide (v < k)) (k_sort k0) r (fun i hi => decide_eq_true (g1 i hi)) 7462 (fun i hi hi2 => decide_eq_false (Int32.not_lt.mpr (g2 i hi hi2)))
  rw [sort_cN] at h1
  have h3 := cN_list k L k0 (fun i hi => hk0 i (by omega))
  rw [hL] at h3
  rw [← h3, h1]
  omega
/-- the model's search counts the keys that are less -/
theorem below_n {ks : Nat → Int32} (h : iv_keys ks) (k : Int32) : k_below ks k = nI (k_made.countP (fun v => decide (v < k))) := by
  obtain ⟨k0, hk0, e0⟩ := h
  rw [e0]
  exact below_L k_made_len hk0 k
