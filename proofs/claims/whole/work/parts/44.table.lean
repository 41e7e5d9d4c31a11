/-! the table: seats, board, what stands -/
theorem c2 {q : Nat} (h : q < 6) : (2 * nI q).toNatClampNeg = 2 * q := by
  rw [show 2 * nI q = nI (2 * q) from pk_mul 2 q, nI_clamp (by omega)]
theorem c21 {q : Nat} (h : q < 6) : (2 * nI q + 1).toNatClampNeg = 2 * q + 1 := by
  rw [show 2 * nI q = nI (2 * q) from pk_mul 2 q, nI_1, nI_clamp (by omega)]
theorem nI_m1 {c : Nat} (h : c < 2 ^ 31) : nI c ≠ -1 := by
  intro e
  have := congrArg Int32.toInt e
  rw [nI_toInt h] at this
  have h2 : (-1 : Int32).toInt = -1 := rfl
  rw [h2] at this
  omega
/-- the facts of the state, in plain words -/
theorem iv_get {T : Nat → Int64} {ck : Nat → Int32} {cn : Int32} {ks se bd dk wi sh : Nat → Int32} {ct : Int32} {b j : Nat} (hI : iv_ok T ck cn ks se bd b dk j ct wi sh) :
    b ≤ 5 ∧ (∀ q, q < 6 → (se (2 * q) = -1 ∧ se (2 * q + 1) = -1) ∨ ∃ x y, x < 52 ∧ y < 52 ∧ se (2 * q) = nI x ∧ se (2 * q + 1) = nI y) ∧ (∀ i, i < b → ∃ x, x < 52 ∧ bd i = nI x) ∧ iv_tab T se bd b := by
  obtain ⟨h1, h2, h3, h4, h5, h6, h7, h8, h9⟩ := hI
  refine ⟨h1, fun q hq => ?_, fun i hi => vp_in_of (h5 i hi) (by decide), h8⟩
  have h := h4 q hq
  rw [c2 hq, c21 hq] at h
  rcases h with h | ⟨ha, hb⟩
  · exact Or.inl ⟨h, (h8.1 q hq).mp h⟩
  · obtain ⟨x, hx, e1⟩ := vp_in_of ha (by decide)
    obtain ⟨y, hy, e2⟩ := vp_in_of hb (by decide)
    exact Or.inr ⟨x, y, hx, hy, e1, e2⟩
/-- a seat's card, or none -/
theorem iv_se {T : Nat → Int64} {ck : Nat → Int32} {cn : Int32} {ks se bd dk wi sh : Nat → Int32} {ct : Int32} {b j : Nat} (hI : iv_ok T ck cn ks se bd b dk j ct wi sh) (i : Nat) (hi : i < 12) : se i = -1 ∨ ∃ x, x < 52 ∧ se i = nI x := by
  obtain ⟨-, hs, -, -⟩ := iv_get hI
  have e : i = 2 * (i / 2) ∨ i = 2 * (i / 2) + 1 := by omega
  rcases hs (i / 2) (by omega) with ⟨h1, h2⟩ | ⟨x, y, hx, hy, h1, h2⟩
  · rcases e with e | e
    · rw [e]; exact Or.inl h1
    · rw [e]; exact Or.inl h2
  · rcases e with e | e
    · rw [e]; exact Or.inr ⟨x, hx, h1⟩
    · rw [e]; exact Or.inr ⟨y, hy, h2⟩
theorem kdc_mem (f : Nat → Int32) (b : Nat) (hb : b ≤ 5) (hf : ∀ i, i < b → ∃ x, x < 52 ∧ f i = nI x) (c : Nat) : ∀ (n : Nat) (z : Int64), n ≤ b → (mem (kd_c f b n z) c ↔ mem z c ∨ ∃ i, b - n ≤ i ∧ i < b ∧ f i = nI c ∧ c < 52)
  | 0, z, _ => by
    unfold kd_c
    exact ⟨Or.inl, fun h => h.elim id (fun ⟨i, h1, h2, _⟩ => absurd h2 (by omega))⟩
  | n + 1, z, hn => by
    unfold kd_c
    obtain ⟨x, hx, e⟩ := hf (b - (n + 1)) (by omega)
    rw [kdc_mem f b hb hf c n _ (by omega), nI_clamp (by omega), mem_or, e, mem_bit (by omega)]
    constructor
    · intro h
      rcases h with (h | h) | ⟨i, h1, h2, h3, h4⟩
      · exact Or.inl h
      · exact Or.inr ⟨b - (n + 1), by omega, by omega, by rw [e, h], by omega⟩
      · exact Or.inr ⟨i, by omega, h2, h3, h4⟩
    · intro h
      rcases h with h | ⟨i, h1, h2, h3, h4⟩
      · exact Or.inl (Or.inl h)
      · by_cases e2 : i = b - (n + 1)
        · rw [e2, e] at h3
          exact Or.inl (Or.inr ((nI_eq (by omega) (by omega)).mp h3).symm)
        · exact Or.inr ⟨i, by omega, h2, h3, h4⟩
theorem bset_mem {f : Nat → Int32} {b : Nat} (hb : b ≤ 5) (hf : ∀ i, i < b → ∃ x, x < 52 ∧ f i = nI x) (c : Nat) : mem (k_bset f b) c ↔ ∃ i, i < b ∧ f i = nI c ∧ c < 52 := by
  unfold k_bset
  rw [kdc_mem f b hb hf c b 0 (Nat.le_refl _)]
  constructor
  · intro h
    rcases h with h | ⟨i, h1, h2⟩
    · exact absurd h (mem_0 c)
    · exact ⟨i, h2⟩
  · intro ⟨i, h⟩
    exact Or.inr ⟨i, by omega, h⟩
theorem bset_cset {f : Nat → Int32} {b : Nat} (hb : b ≤ 5) (hf : ∀ i, i < b → ∃ x, x < 52 ∧ f i = nI x) : k_bset f b = cset ((List.range b).map f) := by
  have hv : ∀ k ∈ (List.range b).map f, vp_in k 52 := by
    intro k hk
    obtain ⟨i, hi, e⟩ := List.mem_map.mp hk
    obtain ⟨x, hx, e2⟩ := hf i (List.mem_range.mp hi)
    rw [← e, e2]
    exact vp_in_nI hx (by decide)
  apply mem_ext
  intro c _
  rw [bset_mem hb hf, cset_mem _ hv]
  constructor
  · intro ⟨i, h1, h2, h3⟩
    exact ⟨List.mem_map.mpr ⟨i, List.mem_range.mpr h1, h2⟩, h3⟩
  · intro ⟨h1, h2⟩
    obtain ⟨i, hi, e⟩ := List.mem_map.mp h1
    exact ⟨i, List.mem_range.mp hi, e, h2⟩
theorem nd_map {f : Nat → Int32} : ∀ (n : Nat), (∀ i j, i < n → j < n → i ≠ j → f i ≠ f j) → ((List.range n).map f).Nodup
  | 0, _ => List.nodup_nil
  | n + 1, h => by
    rw [List.range_succ, List.map_append, List.nodup_append]
    refine ⟨nd_map n (fun i j hi hj => h i j (by omega) (by omega)), by simp, ?_⟩
    intro a ha b hb e
    obtain ⟨i, hi, e1⟩ := List.mem_map.mp ha
    simp only [List.map_cons, List.map_nil, List.mem_cons, List.not_mem_nil, or_false] at hb
    have hi := List.mem_range.mp hi
    exact h i n (by omega) (by omega) (by omega) (by rw [e1, e, hb])
theorem iv_pop {T : Nat → Int64} {ck : Nat → Int32} {cn : Int32} {ks se bd dk wi sh : Nat → Int32} {ct : Int32} {b j : Nat} (hI : iv_ok T ck cn ks se bd b dk j ct wi sh) : pop (T 6) = b := by
  obtain ⟨h1, h2, h3, h4⟩ := iv_get hI
  rw [h4.2.2.1, bset_cset h1 h3, cset_pop _ (fun k hk => ?_) (nd_map b h4.2.2.2.2.2)]
  · simp
  · obtain ⟨i, hi, e⟩ := List.mem_map.mp hk
    obtain ⟨x, hx, e2⟩ := h3 i (List.mem_range.mp hi)
    rw [← e, e2]
    exact vp_in_nI hx (by decide)
theorem iv_bs {T : Nat → Int64} {ck : Nat → Int32} {cn : Int32} {ks se bd dk wi sh : Nat → Int32} {ct : Int32} {b j : Nat} (hI : iv_ok T ck cn ks se bd b dk j ct wi sh) : g_bs T = nI b := by
  unfold g_bs
  rw [show (6 : Int32).toNatClampNeg = 6 from rfl, bc_is, iv_pop hI]
/-- what is in a seat's set -/
theorem iv_Tm {T : Nat → Int64} {ck : Nat → Int32} {cn : Int32} {ks se bd dk wi sh : Nat → Int32} {ct : Int32} {b j : Nat} (hI : iv_ok T ck cn ks se bd b dk j ct wi sh) {q : Nat} (hq : q < 6) (c : Nat) : mem (T q) c ↔ c < 52 ∧ (se (2 * q) = nI c ∨ se (2 * q + 1) = nI c) := by
  obtain ⟨h1, h2, h3, h4⟩ := iv_get hI
  rw [h4.2.1 q hq]
  rcases h2 q hq with ⟨e1, e2⟩ | ⟨x, y, hx, hy, e1, e2⟩
  · rw [e1, e2, if_pos rfl]
    constructor
    · intro h; exact absurd h (mem_0 c)
    · intro ⟨h5, h6⟩
      rcases h6 with h6 | h6
      · exact absurd h6.symm (nI_m1 (by omega))
      · exact absurd h6.symm (nI_m1 (by omega))
  · rw [e1, e2, if_neg (nI_m1 (by omega)), mem_or, mem_bit (by omega), mem_bit (by omega)]
    constructor
    · intro h
      rcases h with h | h
      · exact ⟨by omega, Or.inl (by rw [h])⟩
      · exact ⟨by omega, Or.inr (by rw [h])⟩
    · intro ⟨h5, h6⟩
      rcases h6 with h6 | h6
      · exact Or.inl ((nI_eq (by omega) (by omega)).mp h6).symm
      · exact Or.inr ((nI_eq (by omega) (by omega)).mp h6).symm
theorem iv_T6 {T : Nat → Int64} {ck : Nat → Int32} {cn : Int32} {ks se bd dk wi sh : Nat → Int32} {ct : Int32} {b j : Nat} (hI : iv_ok T ck cn ks se bd b dk j ct wi sh) (c : Nat) : mem (T 6) c ↔ ∃ i, i < b ∧ bd i = nI c ∧ c < 52 := by
  obtain ⟨h1, h2, h3, h4⟩ := iv_get hI
  rw [h4.2.2.1]
  exact bset_mem h1 h3 c
theorem st_mem (T : Nat → Int64) (c : Nat) : ∀ (n : Nat) (a : Int64), n ≤ 7 → (mem (st_lp T n a) c ↔ mem a c ∨ ∃ q, 7 - n ≤ q ∧ q < 7 ∧ mem (T q) c)
  | 0, a, _ => by
    unfold st_lp
    exact ⟨Or.inl, fun h => h.elim id (fun ⟨q, h1, h2, _⟩ => absurd h2 (by omega))⟩
  | n + 1, a, hn => by
    unfold st_lp
    rw [st_mem T c n _ (by omega), nI_clamp (by omega), mem_or]
    constructor
    · intro h
      rcases h with (h | h) | ⟨q, h1, h2, h3⟩
      · exact Or.inl h
      · exact Or.inr ⟨7 - (n + 1), by omega, by omega, h⟩
      · exact Or.inr ⟨q, by omega, h2, h3⟩
    · intro h
      rcases h with h | ⟨q, h1, h2, h3⟩
      · exact Or.inl (Or.inl h)
      · by_cases e : q = 7 - (n + 1)
        · rw [e] at h3; exact Or.inl (Or.inr h3)
        · exact Or.inr ⟨q, by omega, h2, h3⟩
/-- the card stands somewhere -/
theorem stand_mem (T : Nat → Int64) (c : Nat) : mem (g_stand T) c ↔ ∃ q, q < 7 ∧ mem (T q) c := by
  unfold g_stand
  rw [st_mem T c 7 0 (Nat.le_refl _)]
  constructor
  · intro h
    rcases h with h | ⟨q, h1, h2⟩
    · exact absurd h (mem_0 c)
    · exact ⟨q, h2⟩
  · intro ⟨q, h⟩
    exact Or.inr ⟨q, by omega, h⟩
theorem kd2_iff (f : Nat → Int32) (b : Nat) (k : Int32) (hb : b ≤ 5) : ∀ n, n ≤ b → (kd_2 f b k n = 0 ∨ kd_2 f b k n = 1) ∧ (kd_2 f b k n = 0 ↔ ∀ i, b - n ≤ i → i < b → f i ≠ k)
  | 0, _ => ⟨Or.inl rfl, fun _ i h1 h2 => absurd h2 (by omega), fun _ => rfl⟩
  | n + 1, hn => by
    obtain ⟨i1, i2⟩ := kd2_iff f b k hb n (by omega)
    unfold kd_2
    rw [nI_clamp (by omega)]
    by_cases h : f (b - (n + 1)) = k
    · rw [if_pos h]
      exact ⟨Or.inr rfl, fun z => absurd z (by decide), fun z => absurd h (z _ (by omega) (by omega))⟩
    · rw [if_neg h]
      refine ⟨i1, i2.trans ⟨fun z i h1 h2 => ?_, fun z i h1 h2 => z i (by omega) h2⟩⟩
      by_cases e : i = b - (n + 1)
      · rw [e]; exact h
      · exact z i (by omega) h2
theorem kd1_iff (h f : Nat → Int32) (b : Nat) (k u : Int32) (hb : b ≤ 5) : ∀ n, n ≤ 12 → (kd_1 h f b k u n = 0 ∨ kd_1 h f b k u n = 1) ∧ (kd_1 h f b k u n = 0 ↔ (∀ i, 12 - n ≤ i → i < 12 → h i = k → nI (i / 2) = u) ∧ ∀ i, i < b → f i ≠ k)
  | 0, _ => by
    obtain ⟨i1, i2⟩ := kd2_iff f b k hb b (Nat.le_refl _)
    unfold kd_1
    exact ⟨i1, i2.trans ⟨fun z => ⟨fun i h1 h2 => absurd h2 (by omega), fun i h1 => z i (by omega) h1⟩, fun z i _ h2 => z.2 i h2⟩⟩
  | n + 1, hn => by
    obtain ⟨i1, i2⟩ := kd1_iff h f b k u hb n (by omega)
    unfold kd_1
    rw [nI_clamp (by omega), show nI (12 - (n + 1)) / 2 = nI ((12 - (n + 1)) / 2) from pk_div (d := 2) (by omega) (by omega) (by omega)]
    by_cases h1 : h (12 - (n + 1)) = k
    · rw [if_pos h1]
      by_cases h2 : nI ((12 - (n + 1)) / 2) = u
      · rw [if_pos h2]
        refine ⟨i1, i2.trans ⟨fun z => ⟨fun i g1 g2 g3 => ?_, z.2⟩, fun z => ⟨fun i g1 g2 g3 => z.1 i (by omega) g2 g3, z.2⟩⟩⟩
        by_cases e : i = 12 - (n + 1)
        · rw [e]; exact h2
        · exact z.1 i (by omega) g2 g3
      · rw [if_neg h2]
        exact ⟨Or.inr rfl, fun z => absurd z (by decide), fun z => absurd (z.1 _ (by omega) (by omega) h1) h2⟩
    · rw [if_neg h1]
      refine ⟨i1, i2.trans ⟨fun z => ⟨fun i g1 g2 g3 => ?_, z.2⟩, fun z => ⟨fun i g1 g2 g3 => z.1 i (by omega) g2 g3, z.2⟩⟩⟩
      by_cases e : i = 12 - (n + 1)
      · rw [e] at g3; exact absurd g3 h1
      · exact z.1 i (by omega) g2 g3
/-- where the model finds no card k but at seat u -/
theorem stands_iff (h f : Nat → Int32) (b : Nat) (k u : Int32) (hb : b ≤ 5) : k_stands h f b k u = 0 ↔ (∀ i, i < 12 → h i = k → nI (i / 2) = u) ∧ ∀ i, i < b → f i ≠ k := by
  have := (kd1_iff h f b k u hb 12 (Nat.le_refl _)).2
  unfold k_stands
  rw [this]
  exact ⟨fun z => ⟨fun i h1 => z.1 i (by omega) h1, z.2⟩, fun z => ⟨fun i _ h1 => z.1 i h1, z.2⟩⟩
/-- a card stands for the class where it stands for the model -/
theorem iv_stand {T : Nat → Int64} {ck : Nat → Int32} {cn : Int32} {ks se bd dk wi sh : Nat → Int32} {ct : Int32} {b j : Nat} (hI : iv_ok T ck cn ks se bd b dk j ct wi sh) {c : Nat} (hc : c < 52) : mem (g_stand T) c ↔ ¬ k_stands se bd b (nI c) (-1) = 0 := by
  have hb := hI.1
  rw [stand_mem, stands_iff se bd b (nI c) (-1) hb]
  constructor
  · intro ⟨q, hq, hm⟩ ⟨z1, z2⟩
    by_cases h6 : q = 6
    · rw [h6, iv_T6 hI] at hm
      obtain ⟨i, h1, h2, h3⟩ := hm
      exact z2 i h1 h2
    · rw [iv_Tm hI (by omega)] at hm
      rcases hm.2 with h | h
      · exact nI_m1 (c := 2 * q / 2) (by omega) (z1 (2 * q) (by omega) h)
      · exact nI_m1 (c := (2 * q + 1) / 2) (by omega) (z1 (2 * q + 1) (by omega) h)
  · intro h
    apply Classical.byContradiction
    intro h2
    apply h
    refine ⟨fun i hi e => ?_, fun i hi e => ?_⟩
    · refine absurd ⟨i / 2, by omega, (iv_Tm hI (by omega) c).mpr ⟨hc, ?_⟩⟩ h2
      have e2 : i = 2 * (i / 2) ∨ i = 2 * (i / 2) + 1 := by omega
      rcases e2 with e2 | e2
      · rw [← e2]; exact Or.inl e
      · rw [← e2]; exact Or.inr e
    · exact absurd ⟨6, by omega, (iv_T6 hI c).mpr ⟨i, hi, e, hc⟩⟩ h2
