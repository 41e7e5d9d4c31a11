/-! what the moves leave -/
theorem Inv_mk {T : Nat → Int64} {ck : Nat → Int32} {cn : Int32} {th : Int32} {ks : Nat → Int32} {kc : Int32} {rn oc hd : Nat → Int32} {hs : Int32} {se bd : Nat → Int32} {b : Nat} {dk : Nat → Int32} {j : Nat} {ct bo : Int32} {wi sh lf : Nat → Int32} {lc mo ah : Int32} (h : iv_ok T ck cn ks se bd b dk j ct wi sh) : Inv T ck cn (th, ks, kc, rn, oc, hd, hs, se, bd, nI b, dk, nI j, ct, bo, wi, sh, lf, lc, mo, ah) :=
  ⟨th, ks, kc, rn, oc, hd, hs, se, bd, b, dk, j, ct, bo, wi, sh, lf, lc, mo, ah, rfl, h⟩
theorem inr_mu {a a' : Option Value} {b b' : Nat → Int64} {c c' : Nat → Int32} {d d' : Int32} (h : (Sum.inr (a, b, c, d) : mu_R) = .inr (a', b', c', d')) : a = a' ∧ b = b' ∧ c = c' ∧ d = d' := by
  cases h
  exact ⟨rfl, rfl, rfl, rfl⟩
theorem so_ag : ∀ (n : Nat) (f f' : Nat → Int32), n ≤ 52 → (∀ i, i < 52 - n → f i = f' i) → k_ag 52 (sd_lp n f) (kk_lp n f')
  | 0, f, f', _, h => h
  | n + 1, f, f', hn, h => by
    unfold sd_lp kk_lp
    refine so_ag n _ _ (by omega) (fun i hi => ?_)
    rw [nI_clamp (by omega)]
    by_cases e : i = 52 - (n + 1)
    · rw [e, pk_us, pk_us]
    · rw [pk_un e, pk_un e]; exact h i (by omega)
theorem sh_ag : ∀ (n : Nat) (x : Int32) (f f' : Nat → Int32), n ≤ 51 → k_ag 52 f f' → k_ag 52 (sh_lp n x f) (kp_lp n x f')
  | 0, x, f, f', _, h => h
  | n + 1, x, f, f', hn, h => by
    unfold sh_lp kp_lp
    obtain ⟨i, hi, e⟩ := sh_le (sh_x x) (k := n + 1) hn
    rw [e, nI_clamp (by omega), nI_clamp (by omega)]
    refine sh_ag n _ _ _ (by omega) (k_agu (k_agu h (fun _ => h i (by omega))) (fun _ => h (n + 1) (by omega)))
theorem shuf_ag (x : Int32) (f f' : Nat → Int32) : k_ag 52 (g_shuf x f) (k_shuf x f') :=
  sh_ag 51 x _ _ (Nat.le_refl _) (so_ag 52 f f' (Nat.le_refl _) (fun i hi => absurd hi (by omega)))
theorem seat_iff (k : Int32) : m_noSeat k = 0 ↔ ¬ q_seat k := by
  unfold m_noSeat q_seat
  constructor
  · intro h
    split at h
    · exact absurd h (by decide)
    · split at h
      · rename_i h1 h2
        intro z
        rcases z with z | z
        · exact h1 z
        · exact z (by
            obtain ⟨j, hj, e⟩ := nI_of2 (M := 5) (n := 5) rfl h1 h2
            rw [e]
            exact nI_lt (b := 6) (by omega) (by decide))
      · exact absurd h (by decide)
  · intro h
    have h1 : ¬ k < 0 := fun z => h (Or.inl z)
    have h2 : k < 6 := Classical.not_not.mp (fun z => h (Or.inr z))
    rw [if_neg h1, if_pos]
    obtain ⟨j, hj, e⟩ := nI_of h1
    rw [e] at h2 ⊢
    have := (nI_ltI (b := 6) hj (by decide)).mp h2
    exact nI_le (b := 5) (by omega) (by decide)
theorem card_iff (k : Int32) : m_noCard k = 0 ↔ ¬ q_card k := by
  unfold m_noCard q_card
  constructor
  · intro h
    split at h
    · exact absurd h (by decide)
    · split at h
      · rename_i h1 h2
        intro z
        rcases z with z | z
        · exact h1 z
        · exact z (by
            obtain ⟨j, hj, e⟩ := nI_of2 (M := 51) (n := 51) rfl h1 h2
            rw [e]
            exact nI_lt (b := 52) (by omega) (by decide))
      · exact absurd h (by decide)
  · intro h
    have h1 : ¬ k < 0 := fun z => h (Or.inl z)
    have h2 : k < 52 := Classical.not_not.mp (fun z => h (Or.inr z))
    rw [if_neg h1, if_pos]
    obtain ⟨j, hj, e⟩ := nI_of h1
    rw [e] at h2 ⊢
    have := (nI_ltI (b := 52) hj (by decide)).mp h2
    exact nI_le (b := 51) (by omega) (by decide)
theorem seat_of {k : Int32} (h : ¬ q_seat k) : ∃ q, q < 6 ∧ k = nI q := by
  have h1 : ¬ k < 0 := fun z => h (Or.inl z)
  have h2 : k < 6 := Classical.not_not.mp (fun z => h (Or.inr z))
  obtain ⟨j, hj, e⟩ := nI_of h1
  rw [e] at h2
  exact ⟨j, (nI_ltI (b := 6) hj (by decide)).mp h2, e⟩
theorem card_of {k : Int32} (h : ¬ q_card k) : ∃ q, q < 52 ∧ k = nI q := by
  have h1 : ¬ k < 0 := fun z => h (Or.inl z)
  have h2 : k < 52 := Classical.not_not.mp (fun z => h (Or.inr z))
  obtain ⟨j, hj, e⟩ := nI_of h1
  rw [e] at h2
  exact ⟨j, (nI_ltI (b := 52) hj (by decide)).mp h2, e⟩
section MV
variable {T : Nat → Int64} {ck : Nat → Int32} {cn : Int32} {ks se bd dk wi sh : Nat → Int32} {ct : Int32} {b j : Nat}
/-- the same table, written otherwise -/
theorem iv_T {T1 : Nat → Int64} (hI : iv_ok T ck cn ks se bd b dk j ct wi sh) (h : ∀ q, q < 7 → T1 q = T q) : iv_ok T1 ck cn ks se bd b dk j ct wi sh := by
  obtain ⟨h1, h2, h3, h4, h5, h6, h7, ⟨t1, t2, t3, t4⟩, h9⟩ := hI
  exact ⟨h1, h2, h3, h4, h5, h6, h7, ⟨t1, fun q hq => (h q (by omega)).trans (t2 q hq), (h 6 (by omega)).trans t3, t4⟩, h9⟩
theorem iv_T0 (hI : iv_ok T ck cn ks se bd b dk j ct wi sh) {q : Nat} (hq : q < 6) : T q = 0 ↔ se (2 * q) = -1 := by
  obtain ⟨h1, h2, h3, h4⟩ := iv_get hI
  rw [h4.2.1 q hq]
  rcases h2 q hq with ⟨e1, e2⟩ | ⟨x, y, hx, hy, e1, e2⟩
  · rw [e1, if_pos rfl]; exact ⟨fun _ => rfl, fun _ => rfl⟩
  · rw [e1, e2, if_neg (nI_m1 (by omega))]
    constructor
    · intro h
      exact absurd h ((mem_ne0 _).mpr ⟨x, (mem_or _ _ _).mpr (Or.inl ((mem_bit (by omega) x).mpr rfl))⟩)
    · intro h; exact absurd h (nI_m1 (by omega))
theorem su_at (se : Nat → Int32) (q : Nat) (u w : Int32) (i : Nat) : upd (upd se (2 * q) u) (2 * q + 1) w i = if i = 2 * q + 1 then w else if i = 2 * q then u else se i := by
  by_cases h : i = 2 * q + 1
  · rw [if_pos h, h, pk_us]
  · rw [if_neg h, pk_un h]
    by_cases h2 : i = 2 * q
    · rw [if_pos h2, h2, pk_us]
    · rw [if_neg h2, pk_un h2]
/-- two cards put at a seat, or both taken away -/
theorem iv_put (hI : iv_ok T ck cn ks se bd b dk j ct wi sh) {q : Nat} (hq : q < 6) (u w : Int32) (X : Int64) (h : (u = -1 ∧ w = -1 ∧ X = 0) ∨ ∃ x y, x < 52 ∧ y < 52 ∧ x ≠ y ∧ u = nI x ∧ w = nI y ∧ X = (jl 1 (nI x) ||| jl 1 (nI y)) ∧ (∀ i, i < 12 → i / 2 ≠ q → se i ≠ nI x ∧ se i ≠ nI y) ∧ ∀ i, i < b → bd i ≠ nI x ∧ bd i ≠ nI y) :
    iv_ok (vp_updL T q X) ck cn ks (upd (upd se (2 * q) u) (2 * q + 1) w) bd b dk j 0 wi sh := by
  obtain ⟨g1, hs, g3, g4⟩ := iv_get hI
  obtain ⟨h1, h2, h3, h4, h5, h6, h7, ⟨t1, t2, t3, d1, d2, d3⟩, h9⟩ := hI
  have hu : (u = -1 ↔ w = -1) ∧ X = (if u = -1 then 0 else jl 1 u ||| jl 1 w) ∧ (u = -1 ∨ (vp_in u 52 ∧ vp_in w 52)) := by
    rcases h with ⟨e1, e2, e3⟩ | ⟨x, y, hx, hy, hxy, e1, e2, e3, -⟩
    · rw [e1, e2, e3]; exact ⟨Iff.rfl, (if_pos rfl).symm, Or.inl rfl⟩
    · rw [e1, e2, e3]
      exact ⟨⟨fun z => absurd z (nI_m1 (by omega)), fun z => absurd z (nI_m1 (by omega))⟩, (if_neg (nI_m1 (by omega))).symm, Or.inr ⟨vp_in_nI hx (by decide), vp_in_nI hy (by decide)⟩⟩
  have ev : ∀ p, p < 6 → upd (upd se (2 * q) u) (2 * q + 1) w (2 * p) = if p = q then u else se (2 * p) := by
    intro p hp
    rw [su_at, if_neg (by omega)]
    by_cases e : p = q
    · rw [if_pos (by omega), if_pos e]
    · rw [if_neg (by omega), if_neg e]
  have od : ∀ p, p < 6 → upd (upd se (2 * q) u) (2 * q + 1) w (2 * p + 1) = if p = q then w else se (2 * p + 1) := by
    intro p hp
    rw [su_at]
    by_cases e : p = q
    · rw [if_pos (by omega), if_pos e]
    · rw [if_neg (by omega), if_neg (by omega), if_neg e]
  refine ⟨h1, h2, h3, fun p hp => ?_, h5, h6, h7, ⟨fun p hp => ?_, fun p hp => ?_, ?_, fun i i' hi hi' hne hi1 => ?_, fun i i' hi hi' hi1 => ?_, d3⟩, Or.inl rfl⟩
  · have h40 := h4 p hp
    rw [c2 hp, c21 hp] at h40 ⊢
    rw [ev p hp, od p hp]
    by_cases e : p = q
    · rw [if_pos e, if_pos e]; exact hu.2.2
    · rw [if_neg e, if_neg e]; exact h40
  · rw [ev p hp, od p hp]
    by_cases e : p = q
    · rw [if_pos e, if_pos e]; exact hu.1
    · rw [if_neg e, if_neg e]; exact t1 p hp
  · rw [ev p hp, od p hp]
    by_cases e : p = q
    · rw [if_pos e, if_pos e, e, pk_uLs]; exact hu.2.1
    · rw [if_neg e, if_neg e, pk_uLn e]; exact t2 p hp
  · rw [pk_uLn (by omega)]; exact t3
  · rw [su_at] at hi1 ⊢
    rw [su_at]
    rcases h with ⟨e1, e2, e3⟩ | ⟨x, y, hx, hy, hxy, e1, e2, e3, k1, k2⟩
    · rw [e1, e2] at hi1 ⊢
      by_cases a1 : i = 2 * q + 1
      · rw [if_pos a1] at hi1; exact absurd rfl hi1
      · rw [if_neg a1] at hi1 ⊢
        by_cases a2 : i = 2 * q
        · rw [if_pos a2] at hi1; exact absurd rfl hi1
        · rw [if_neg a2] at hi1 ⊢
          split
          · exact hi1
          · split
            · exact hi1
            · exact d1 i i' hi hi' hne hi1
    · rw [e1, e2] at hi1 ⊢
      have hxy2 : nI x ≠ nI y := fun z => hxy ((nI_eq (by omega) (by omega)).mp z)
      by_cases a1 : i = 2 * q + 1
      · rw [if_pos a1]
        by_cases b1 : i' = 2 * q + 1
        · exact absurd (a1.trans b1.symm) hne
        · rw [if_neg b1]
          by_cases b2 : i' = 2 * q
          · rw [if_pos b2]; exact fun z => hxy2 z.symm
          · rw [if_neg b2]; exact fun z => (k1 i' hi' (by omega)).2 z.symm
      · rw [if_neg a1] at hi1 ⊢
        by_cases a2 : i = 2 * q
        · rw [if_pos a2]
          by_cases b1 : i' = 2 * q + 1
          · rw [if_pos b1]; exact hxy2
          · rw [if_neg b1]
            by_cases b2 : i' = 2 * q
            · exact absurd (a2.trans b2.symm) hne
            · rw [if_neg b2]; exact fun z => (k1 i' hi' (by omega)).1 z.symm
        · rw [if_neg a2] at hi1 ⊢
          split
          · exact (k1 i hi (by omega)).2
          · split
            · exact (k1 i hi (by omega)).1
            · exact d1 i i' hi hi' hne hi1
  · rw [su_at] at hi1 ⊢
    rcases h with ⟨e1, e2, e3⟩ | ⟨x, y, hx, hy, hxy, e1, e2, e3, k1, k2⟩
    · rw [e1, e2] at hi1 ⊢
      by_cases a1 : i = 2 * q + 1
      · rw [if_pos a1] at hi1; exact absurd rfl hi1
      · rw [if_neg a1] at hi1 ⊢
        by_cases a2 : i = 2 * q
        · rw [if_pos a2] at hi1; exact absurd rfl hi1
        · rw [if_neg a2] at hi1 ⊢
          exact d2 i i' hi hi' hi1
    · rw [e1, e2] at hi1 ⊢
      split
      · exact fun z => (k2 i' hi').2 z.symm
      · split
        · exact fun z => (k2 i' hi').1 z.symm
        · rename_i a1 a2
          rw [if_neg a1, if_neg a2] at hi1
          exact d2 i i' hi hi' hi1
/-- another card on the board -/
theorem iv_card (hI : iv_ok T ck cn ks se bd b dk j ct wi sh) {c : Nat} (hc : c < 52) (hb : b < 5) (hs : k_stands se bd b (nI c) (-1) = 0) : iv_ok (vp_updL T 6 (T 6 ||| jl 1 (nI c))) ck cn ks se (upd bd b (nI c)) (b + 1) dk j 0 wi sh := by
  have hst := (stands_iff se bd b (nI c) (-1) hI.1).mp hs
  obtain ⟨g1, gs, g3, g4⟩ := iv_get hI
  obtain ⟨h1, h2, h3, h4, h5, h6, h7, ⟨t1, t2, t3, d1, d2, d3⟩, h9⟩ := hI
  have hn : ∀ i, i < b + 1 → ∃ x, x < 52 ∧ upd bd b (nI c) i = nI x := by
    intro i hi
    by_cases e : i = b
    · rw [e, pk_us]; exact ⟨c, hc, rfl⟩
    · rw [pk_un e]; exact g3 i (by omega)
  refine ⟨by omega, h2, h3, h4, fun i hi => ?_, h6, h7, ⟨t1, fun q hq => ?_, ?_, d1, fun i i' hi hi' hi1 => ?_, fun i i' hi hi' hne => ?_⟩, Or.inl rfl⟩
  · obtain ⟨x, hx, e⟩ := hn i hi
    rw [e]; exact vp_in_nI hx (by decide)
  · rw [pk_uLn (by omega)]; exact t2 q hq
  · rw [pk_uLs, t3]
    apply mem_ext
    intro d _
    rw [mem_or, mem_bit (by omega), bset_mem g1 g3, bset_mem (by omega) hn]
    constructor
    · intro z
      rcases z with ⟨i, z1, z2, z3⟩ | z
      · exact ⟨i, by omega, by rw [pk_un (by omega)]; exact z2, z3⟩
      · exact ⟨b, by omega, by rw [pk_us, z], by omega⟩
    · intro ⟨i, z1, z2, z3⟩
      by_cases e : i = b
      · rw [e, pk_us] at z2
        exact Or.inr ((nI_eq (by omega) (by omega)).mp z2).symm
      · rw [pk_un e] at z2
        exact Or.inl ⟨i, by omega, z2, z3⟩
  · by_cases e : i' = b
    · rw [e, pk_us]
      intro z
      exact nI_m1 (c := i / 2) (by omega) (hst.1 i hi z)
    · rw [pk_un e]; exact d2 i i' hi (by omega) hi1
  · by_cases e : i = b
    · rw [e, pk_us, pk_un (by omega)]
      exact fun z => hst.2 i' (by omega) z.symm
    · rw [pk_un e]
      by_cases e2 : i' = b
      · rw [e2, pk_us]; exact hst.2 i (by omega)
      · rw [pk_un e2]; exact d3 i i' (by omega) (by omega) hne
/-- the board is taken away -/
theorem iv_clear (hI : iv_ok T ck cn ks se bd b dk j ct wi sh) : iv_ok (vp_updL T 6 0) ck cn ks se bd 0 dk j 0 wi sh := by
  obtain ⟨h1, h2, h3, h4, h5, h6, h7, ⟨t1, t2, t3, d1, d2, d3⟩, h9⟩ := hI
  exact ⟨by omega, h2, h3, h4, fun i hi => absurd hi (by omega), h6, h7, ⟨t1, fun q hq => by rw [pk_uLn (by omega)]; exact t2 q hq, by rw [pk_uLs]; rfl, d1, fun i i' _ hi' => absurd hi' (by omega), fun i i' hi => absurd hi (by omega)⟩, Or.inl rfl⟩
end MV
