/-! lists of cards as sets; the model's keys of five of them -/
def setL (B : List Nat) : Int64 := cset (B.map nI)
theorem setL_mem {B : List Nat} (h : ∀ c ∈ B, c < 52) (c : Nat) : mem (setL B) c ↔ c ∈ B := by
  unfold setL
  rw [cset_mem _ (fun k hk => by
    obtain ⟨a, ha, e⟩ := List.mem_map.mp hk
    rw [← e]
    exact vp_in_nI (h a ha) (by decide))]
  constructor
  · intro ⟨h1, h2⟩
    obtain ⟨a, ha, e⟩ := List.mem_map.mp h1
    have := h a ha
    rw [(nI_eq (by omega) (by omega)).mp e] at ha
    exact ha
  · intro h1
    exact ⟨List.mem_map.mpr ⟨c, h1, rfl⟩, h c h1⟩
theorem setL_adds {B : List Nat} {c : Nat} (h : ∀ d ∈ c :: B, d < 52) (hn : c ∉ B) : adds (setL B) c (setL (c :: B)) := by
  have h2 : ∀ d ∈ B, d < 52 := fun d hd => h d (List.mem_cons_of_mem _ hd)
  refine ⟨fun z => hn ((setL_mem h2 c).mp z), fun d => ?_⟩
  rw [setL_mem h, setL_mem h2, List.mem_cons]
  exact ⟨fun z => z.symm, fun z => z.symm⟩
theorem cR_0 (r : Nat) : cR 0 r = 0 := by
  have h : ∀ j, u1 0 j r = 0 := by
    intro j
    have h1 := u1_lt 0 j r
    have h2 : ¬ u1 0 j r = 1 := fun z => mem_0 _ ((u1_mem 0 j r).mp z)
    omega
  unfold cR
  rw [h, h, h, h]
theorem setL_cR : ∀ {B : List Nat}, (∀ c ∈ B, c < 52) → B.Nodup → cR (setL B) = cl (B.map (· / 4))
  | [], _, _ => by
    funext r
    exact cR_0 r
  | c :: B, h, hn => by
    have h2 := List.nodup_cons.mp hn
    have ih := setL_cR (B := B) (fun d hd => h d (List.mem_cons_of_mem _ hd)) h2.2
    funext r
    rw [adds_cR (setL_adds h h2.1), ih]
    show _ = ic (cl (B.map (· / 4))) (c / 4) r
    unfold ic
    by_cases e : r = c / 4
    · rw [if_pos e, if_pos e]
    · rw [if_neg e, if_neg e]
      rfl
theorem setL_pop : ∀ {B : List Nat}, (∀ c ∈ B, c < 52) → B.Nodup → pop (setL B) = B.length
  | [], _, _ => pop_0
  | c :: B, h, hn => by
    have h2 := List.nodup_cons.mp hn
    rw [adds_pop (setL_adds h h2.1), setL_pop (B := B) (fun d hd => h d (List.mem_cons_of_mem _ hd)) h2.2]
    rfl
theorem setL_in {B : List Nat} (h : ∀ c ∈ B, c < 52) : in52 (setL B) := fun c hc => h c ((setL_mem h c).mp hc)
def sameS (B : List Nat) : Prop := ∀ c ∈ B, ∀ d ∈ B, c % 4 = d % 4
/-- the key that the model gives to the cards of a list -/
def kres (B : List Nat) (v : Int32) : Prop := (B.length ≠ 5 ∧ v = -1) ∨ (B.length = 5 ∧ ((sameS B ∧ v = k_key (fun i => nI (cl (B.map (· / 4)) i)) 1) ∨ (¬ sameS B ∧ v = k_key (fun i => nI (cl (B.map (· / 4)) i)) 0)))
theorem suit_1 {x : Int64} {c : Nat} (hc : c < 52) (h : mem x c) : 1 ≤ cS (u1 x (c % 4)) 13 := by
  have h1 : ∀ k, c / 4 < k → 1 ≤ cS (u1 x (c % 4)) k := by
    intro k
    induction k with
    | zero => intro h2; omega
    | succ k ih =>
      intro h2
      unfold cS
      by_cases e : c / 4 = k
      · have : u1 x (c % 4) k = 1 := (u1_mem x (c % 4) k).mpr (by rw [← e, show 4 * (c / 4) + c % 4 = c by omega]; exact h)
        omega
      · have := ih (by omega)
        omega
  exact h1 13 (by omega)
theorem suit_2 {x : Int64} (j i : Nat) (hj : j < 4) (hi : i < 4) (hne : i ≠ j) : cS (u1 x i) 13 + cS (u1 x j) 13 ≤ cS (cR x) 13 := by
  rw [cS_suits]
  obtain h | h | h | h : j = 0 ∨ j = 1 ∨ j = 2 ∨ j = 3 := by omega
  all_goals
    subst h
    obtain h | h | h | h : i = 0 ∨ i = 1 ∨ i = 2 ∨ i = 3 := by omega
    all_goals
      subst h
      omega
theorem V_flush {x : Int64} (hx : in52 x) (hp : pop x = 5 ∨ pop x = 6 ∨ pop x = 7) {j : Nat} (hj : j < 4) (h5 : 5 ≤ cS (u1 x j) 13) : V x = FLN (sN (u1 x j) 1 13) := by
  have hd := cD_suit x hj 13
  have hs := pop_cS hx
  obtain ⟨g1, g2, -⟩ := gc_x hx hp
  have gg := g2 (by omega)
  have fj : fl x j = FLN (sN (u1 x j) 1 13) := if_pos h5
  have f : ∀ i, i < 4 → i ≠ j → fl x i = 0 := fun i hi2 hne => if_neg (by have := suit_2 (x := x) j i hj hi2 hne; omega)
  have hb := (fl_ok (u1_lt x j) h5).1
  rw [← fj] at hb ⊢
  have hv := fl_V x hj
  rcases V_is x with h | ⟨i, hi2, h⟩
  · omega
  · by_cases hij : i = j
    · rw [h, hij]
    · rw [f i hi2 hij] at h
      omega
theorem V_plain {x : Int64} (h5 : ∀ j, j < 4 → cS (u1 x j) 13 < 5) : V x = gc (cR x) := by
  have f : ∀ j, j < 4 → fl x j = 0 := fun j hj => if_neg (by have := h5 j hj; omega)
  unfold V
  rw [f 0 (by decide), f 1 (by decide), f 2 (by decide), f 3 (by decide)]
  omega
theorem kres_V {B : List Nat} {v : Int32} (hB : ∀ c ∈ B, c < 52) (hn : B.Nodup) (h5 : B.length = 5) (h : kres B v) : v = nI (kv (V (setL B))) := by
  have hx := setL_in hB
  have hp : pop (setL B) = 5 := (setL_pop hB hn).trans h5
  have hc := setL_cR hB hn
  have hs := pop_cS hx
  have hl : (B.map (· / 4)).length = 5 := by rw [List.length_map]; exact h5
  have h13 : ∀ r ∈ B.map (· / 4), r < 13 := by
    intro r hr
    obtain ⟨c, hc, e⟩ := List.mem_map.mp hr
    have := hB c hc
    have e : c / 4 = r := e
    omega
  rcases h with ⟨h, -⟩ | ⟨-, h | h⟩
  · exact absurd h5 h
  · obtain ⟨hS, e⟩ := h
    obtain ⟨c, B', rfl⟩ : ∃ c B', B = c :: B' := by
      cases B with
      | nil => cases h5
      | cons c B' => exact ⟨c, B', rfl⟩
    have hj : c % 4 < 4 := Nat.mod_lt _ (by decide)
    have hu : u1 (setL (c :: B')) (c % 4) = cR (setL (c :: B')) := by
      funext r
      have hz : ∀ i, i < 4 → i ≠ c % 4 → u1 (setL (c :: B')) i r = 0 := by
        intro i hi hne
        have h1 := u1_lt (setL (c :: B')) i r
        have h2 : ¬ u1 (setL (c :: B')) i r = 1 := by
          intro z
          have h3 := (setL_mem hB _).mp ((u1_mem _ _ _).mp z)
          have h4 := hS _ h3 c List.mem_cons_self
          omega
        omega
      unfold cR
      obtain q | q | q | q : c % 4 = 0 ∨ c % 4 = 1 ∨ c % 4 = 2 ∨ c % 4 = 3 := by omega
      · rw [q] at hz ⊢
        rw [hz 1 (by decide) (by decide), hz 2 (by decide) (by decide), hz 3 (by decide) (by decide)]
        omega
      · rw [q] at hz ⊢
        rw [hz 0 (by decide) (by decide), hz 2 (by decide) (by decide), hz 3 (by decide) (by decide)]
        omega
      · rw [q] at hz ⊢
        rw [hz 0 (by decide) (by decide), hz 1 (by decide) (by decide), hz 3 (by decide) (by decide)]
        omega
      · rw [q] at hz ⊢
        rw [hz 0 (by decide) (by decide), hz 1 (by decide) (by decide), hz 2 (by decide) (by decide)]
        omega
    rw [V_flush hx (Or.inl hp) hj (by rw [hu, ← hs, hp]; exact Nat.le_refl _), hu, hc, e]
    refine key5_1 hl h13 (fun r => ?_)
    rw [← hc, ← hu]
    have := u1_lt (setL (c :: B')) (c % 4) r
    omega
  · obtain ⟨hS, e⟩ := h
    rw [V_plain (x := setL B), hc, e]
    · refine key5_0 hl h13 (fun r => ?_)
      rw [← hc]
      exact cR_4 _ _
    · intro j hj
      apply Nat.lt_of_not_le
      intro hge
      apply hS
      have ha : ∀ c ∈ B, c % 4 = j := by
        intro c hcB
        apply Classical.byContradiction
        intro hne
        have h1 := suit_1 (hB c hcB) ((setL_mem hB c).mpr hcB)
        have h2 := suit_2 (x := setL B) j (c % 4) hj (Nat.mod_lt _ (by decide)) hne
        omega
      intro c hcB d hdB
      rw [ha c hcB, ha d hdB]
/-! the cards that a number chooses -/
def sl (C : Nat → Nat) (b K : Nat) : Nat → List Nat
  | 0 => []
  | n + 1 => if K.testBit (b - (n + 1)) = true then C (b - (n + 1)) :: sl C b K n else sl C b K n
theorem sl_mem (C : Nat → Nat) (b K c : Nat) : ∀ n, n ≤ b → (c ∈ sl C b K n ↔ ∃ i, b - n ≤ i ∧ i < b ∧ K.testBit i = true ∧ C i = c)
  | 0, _ => by
    unfold sl
    exact ⟨fun h => absurd h List.not_mem_nil, fun ⟨i, h1, h2, _⟩ => absurd h2 (by omega)⟩
  | n + 1, hn => by
    have ih := sl_mem C b K c n (by omega)
    unfold sl
    by_cases h : K.testBit (b - (n + 1)) = true
    · rw [if_pos h, List.mem_cons, ih]
      constructor
      · intro z
        rcases z with z | ⟨i, h1, h2⟩
        · exact ⟨b - (n + 1), by omega, by omega, h, z.symm⟩
        · exact ⟨i, by omega, h2⟩
      · intro ⟨i, h1, h2, h3, h4⟩
        by_cases e : i = b - (n + 1)
        · exact Or.inl (by rw [← h4, e])
        · exact Or.inr ⟨i, by omega, h2, h3, h4⟩
    · rw [if_neg h, ih]
      constructor
      · intro ⟨i, h1, h2⟩
        exact ⟨i, by omega, h2⟩
      · intro ⟨i, h1, h2, h3, h4⟩
        by_cases e : i = b - (n + 1)
        · rw [e] at h3
          exact absurd h3 h
        · exact ⟨i, by omega, h2, h3, h4⟩
theorem sl_nd {C : Nat → Nat} {b : Nat} (hi : ∀ i j, i < b → j < b → C i = C j → i = j) (K : Nat) : ∀ n, n ≤ b → (sl C b K n).Nodup
  | 0, _ => List.nodup_nil
  | n + 1, hn => by
    have ih := sl_nd hi K n (by omega)
    unfold sl
    split
    · refine List.nodup_cons.mpr ⟨fun h => ?_, ih⟩
      obtain ⟨i, h1, h2, h3, h4⟩ := (sl_mem C b K _ n (by omega)).mp h
      have := hi i (b - (n + 1)) h2 (by omega) h4
      omega
    · exact ih
theorem jri_bit : ∀ K, K < 128 → ∀ i, i < 7 → ((jri (nI K) (nI i) &&& 1 = 1) ↔ K.testBit i = true) := by decide +kernel
theorem card_4 : ∀ c, c < 52 → jrem (nI c) 4 = nI (c % 4) ∧ nI c / 4 = nI (c / 4) := by decide +kernel
theorem nI_neg1 {n : Nat} (h : n < 2 ^ 31) : ¬ nI n < 0 := nI_pos h
/-- the model's key of some of the cards -/
theorem ko_res {h : Nat → Int32} {C : Nat → Nat} {b K : Nat} (hb : b ≤ 7) (hK : K < 128) (hh : ∀ i, i < b → h i = nI (C i)) (hC : ∀ i, i < b → C i < 52) :
    ∀ (n : Nat) (A : List Nat) (u t : Int32) (r : Nat → Int32), n ≤ b → A.length ≤ 5 → (∀ c ∈ A, c < 52) → ((u = 1 ∧ sameS A) ∨ (u = 0 ∧ ¬ sameS A)) → ((A = [] ∧ t = -1) ∨ ∃ c ∈ A, t = nI (c % 4)) → (∀ i, i < A.length → r i = nI (A.getD i 0 / 4)) → kres (A ++ sl C b K n) (ko_lp h b (nI K) n (nI A.length) u t r)
  | 0, A, u, t, r, hn, hA, hA2, hu, ht, hr => by
    show kres (A ++ []) (if nI A.length = 5 then k_key (k_oc r) u else -1)
    rw [List.append_nil]
    by_cases h5 : A.length = 5
    · rw [if_pos (by rw [h5]; rfl)]
      obtain ⟨c0, c1, c2, c3, c4, rfl⟩ := len5 h5
      have q : ∀ c ∈ [c0, c1, c2, c3, c4], c / 4 < 13 := fun c hc => by
        have := hA2 c hc
        omega
      rw [oc_5 (q c0 (by simp)) (q c1 (by simp)) (q c2 (by simp)) (q c3 (by simp)) (q c4 (by simp)) (hr 0 (by show 0 < 5; decide)) (hr 1 (by show 1 < 5; decide)) (hr 2 (by show 2 < 5; decide)) (hr 3 (by show 3 < 5; decide)) (hr 4 (by show 4 < 5; decide))]
      have e : cl [c4 / 4, c3 / 4, c2 / 4, c1 / 4, c0 / 4] = cl ([c0, c1, c2, c3, c4].map (· / 4)) := cl_perm (List.reverse_perm [c0 / 4, c1 / 4, c2 / 4, c3 / 4, c4 / 4])
      rw [e]
      refine Or.inr ⟨h5, ?_⟩
      rcases hu with ⟨e1, e2⟩ | ⟨e1, e2⟩
      · rw [e1]
        exact Or.inl ⟨e2, rfl⟩
      · rw [e1]
        exact Or.inr ⟨e2, rfl⟩
    · rw [if_neg (show ¬ nI A.length = 5 from fun z => h5 ((nI_eq (b := 5) (by omega) (by decide)).mp z))]
      exact Or.inl ⟨h5, rfl⟩
  | n + 1, A, u, t, r, hn, hA, hA2, hu, ht, hr => by
    have hbit := jri_bit K hK (b - (n + 1)) (by omega)
    unfold ko_lp sl
    by_cases hs : K.testBit (b - (n + 1)) = true
    · rw [if_pos hs, if_pos (hbit.mpr hs)]
      by_cases h5 : A.length = 5
      · rw [if_pos (by rw [h5]; rfl)]
        refine Or.inl ⟨?_, rfl⟩
        rw [List.length_append, List.length_cons]
        omega
      · rw [if_neg (show ¬ nI A.length = 5 from fun z => h5 ((nI_eq (b := 5) (by omega) (by decide)).mp z)), nI_clamp (n := b - (n + 1)) (by omega), hh _ (by omega)]
        obtain ⟨c, hc⟩ : ∃ c, C (b - (n + 1)) = c := ⟨_, rfl⟩
        have hc52 := hC (b - (n + 1)) (by omega)
        rw [hc] at hc52 ⊢
        obtain ⟨q1, q2⟩ := card_4 c hc52
        rw [q1, q2, nI_clamp (by omega), nI_1, show A ++ c :: sl C b K n = (A ++ [c]) ++ sl C b K n by simp, show A.length + 1 = (A ++ [c]).length by simp]
        refine ko_res hb hK hh hC n (A ++ [c]) _ _ _ (by omega) (by simp; omega) ?_ ?_ (Or.inr ⟨c, by simp, rfl⟩) ?_
        · intro d hd
          rcases List.mem_append.mp hd with hd | hd
          · exact hA2 d hd
          · rw [List.mem_singleton.mp hd]
            exact hc52
        · have mono : sameS (A ++ [c]) → sameS A := fun z d hd e he => z d (List.mem_append_left _ hd) e (List.mem_append_left _ he)
          rcases hu with ⟨e1, e2⟩ | ⟨e1, e2⟩
          · rw [if_neg (by rw [e1]; decide)]
            rcases ht with ⟨t1, t2⟩ | ⟨d, hd, t2⟩
            · rw [if_pos (by rw [t2]; decide)]
              refine Or.inl ⟨rfl, ?_⟩
              rw [t1]
              intro x hx y hy
              rw [List.nil_append, List.mem_singleton] at hx hy
              rw [hx, hy]
            · rw [if_neg (by rw [t2]; exact nI_pos (by omega)), t2]
              by_cases hcd : c % 4 = d % 4
              · rw [if_pos (by rw [hcd])]
                refine Or.inl ⟨rfl, ?_⟩
                have all : ∀ x ∈ A ++ [c], x % 4 = d % 4 := by
                  intro x hx
                  rcases List.mem_append.mp hx with hx | hx
                  · exact e2 x hx d hd
                  · rw [List.mem_singleton.mp hx]
                    exact hcd
                intro x hx y hy
                rw [all x hx, all y hy]
              · rw [if_neg (fun z => hcd ((nI_eq (by omega) (by omega)).mp z))]
                exact Or.inr ⟨rfl, fun z => hcd (z c (by simp) d (List.mem_append_left _ hd))⟩
          · rw [if_pos e1]
            exact Or.inr ⟨rfl, fun z => e2 (mono z)⟩
        · intro i hi
          rw [List.length_append, List.length_singleton] at hi
          unfold upd
          by_cases e : i = A.length
          · rw [if_pos e, e]
            simp
          · rw [if_neg e, hr i (by omega)]
            rw [List.getD_eq_getElem?_getD, List.getD_eq_getElem?_getD, List.getElem?_append_left (by omega)]
    · rw [if_neg hs, if_neg (fun z => hs (hbit.mp z))]
      exact ko_res hb hK hh hC n A u t r (by omega) hA hA2 hu ht hr
theorem some_res {h : Nat → Int32} {C : Nat → Nat} {b K : Nat} (hb : b ≤ 7) (hK : K < 128) (hh : ∀ i, i < b → h i = nI (C i)) (hC : ∀ i, i < b → C i < 52) : kres (sl C b K b) (k_some h b (nI K)) := by
  have := ko_res hb hK hh hC b [] 1 (-1) (fun _ => 0) (Nat.le_refl _) (by simp) (by simp) (Or.inl ⟨rfl, fun c hc => absurd hc List.not_mem_nil⟩) (Or.inl ⟨rfl, rfl⟩) (fun i hi => absurd hi (by simp))
  exact this
