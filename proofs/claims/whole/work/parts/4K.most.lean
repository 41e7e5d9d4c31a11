/-! what a set of five to seven cards is worth: the greatest of its sets with one card less -/
set_option maxRecDepth 100000 in
theorem fl_ck : ck_B flck 13 0 = true := by decide +kernel
theorem fl_ok {c : Nat → Nat} (hc : ∀ r, c r < 2) (h5 : 5 ≤ cS c 13) : 5863 ≤ FLN (sN c 1 13) ∧ FLN (sN c 1 13) < 7462 ∧ (cS c 13 ≠ 5 → (∀ r, r < 13 → 1 ≤ c r → FLN (sN (dc c r) 1 13) ≤ FLN (sN c 1 13)) ∧ ∃ r, r < 13 ∧ 1 ≤ c r ∧ FLN (sN (dc c r) 1 13) = FLN (sN c 1 13)) := by
  have h := ck_of 13 0 fl_ck (sN c 1 13) (Nat.zero_le _) (by have := sN_lt c 1 13; omega)
  unfold flck at h
  rw [fo_eq, fo_eq, pc_cS hc 13 (Nat.le_refl _), show Nat.ble 5 (cS c 13) = true from Nat.ble_eq.mpr h5] at h
  have h : ((Nat.ble 5863 (FLN (sN c 1 13)) && Nat.ble (Nat.succ (FLN (sN c 1 13))) 7462) && (bif Nat.beq (cS c 13) 5 then true else moF (FLN (sN c 1 13)) (sN c 1 13) 13 false)) = true := h
  rw [Bool.and_eq_true, Bool.and_eq_true] at h
  refine ⟨Nat.ble_eq.mp h.1.1, Nat.ble_eq.mp h.1.2, fun h6 => ?_⟩
  have h2 := h.2
  rw [show Nat.beq (cS c 13) 5 = false from Bool.eq_false_iff.mpr (fun y => h6 (Nat.eq_of_beq_eq_true y))] at h2
  obtain ⟨i1, i2⟩ := moF_ok _ _ 13 false h2
  have hd : ∀ r, r < 13 → 1 ≤ c r → sN c 1 13 - 2 ^ r = sN (dc c r) 1 13 := by
    intro r hr h1
    have e := sN_dc c r 1 h1 (by decide) 13
    have := hc r
    rw [if_pos ⟨hr, by omega⟩] at e
    omega
  constructor
  · intro r hr h1
    rw [← hd r hr h1]
    refine i1 r hr ?_
    rw [bt_b, sN_bit]
    exact decide_eq_true ⟨hr, h1⟩
  · rcases i2 with i2 | ⟨r, hr, hb, e⟩
    · exact Bool.noConfusion i2
    · rw [bt_b, sN_bit] at hb
      have h1 := (of_decide_eq_true hb).2
      exact ⟨r, hr, h1, by rw [← hd r hr h1]; exact e⟩
def fl (x : Int64) (j : Nat) : Nat := if 5 ≤ cS (u1 x j) 13 then FLN (sN (u1 x j) 1 13) else 0
def V (x : Int64) : Nat := max (gc (cR x)) (max (max (fl x 0) (fl x 1)) (max (fl x 2) (fl x 3)))
theorem fl_V (x : Int64) {j : Nat} (hj : j < 4) : fl x j ≤ V x := by
  unfold V
  obtain h | h | h | h : j = 0 ∨ j = 1 ∨ j = 2 ∨ j = 3 := by omega
  all_goals
    subst h
    omega
theorem gc_V (x : Int64) : gc (cR x) ≤ V x := Nat.le_max_left _ _
theorem V_is (x : Int64) : V x = gc (cR x) ∨ ∃ j, j < 4 ∧ V x = fl x j := by
  have e : V x = max (gc (cR x)) (max (max (fl x 0) (fl x 1)) (max (fl x 2) (fl x 3))) := rfl
  have h : V x = gc (cR x) ∨ V x = fl x 0 ∨ V x = fl x 1 ∨ V x = fl x 2 ∨ V x = fl x 3 := by omega
  rcases h with h | h | h | h | h
  · exact Or.inl h
  · exact Or.inr ⟨0, by decide, h⟩
  · exact Or.inr ⟨1, by decide, h⟩
  · exact Or.inr ⟨2, by decide, h⟩
  · exact Or.inr ⟨3, by decide, h⟩
/-- the facts of the counts of N cards -/
theorem lf_x {x : Int64} (hx : in52 x) (hp : pop x = 5 ∨ pop x = 6 ∨ pop x = 7) : lf (pop x) (cD (cR x) 13) (sN (cR x) 1 13) (sN (cR x) 2 13) (sN (cR x) 3 13) (sN (cR x) 4 13) = true := by
  have hs := pop_cS hx
  have he : en (pop x) 13 (pop x) 0 0 0 0 0 = true := by
    rcases hp with h | h | h
    · rw [h]; exact en5
    · rw [h]; exact en6
    · rw [h]; exact en7
  have := en_ok (pop x) (cR x) 13 (pop x) 0 0 0 0 0 he hs.symm (fun r _ => cR_4 x r)
  simp only [Nat.zero_add] at this
  exact this
theorem gc_x {x : Int64} (hx : in52 x) (hp : pop x = 5 ∨ pop x = 6 ∨ pop x = 7) : gc (cR x) < 7462 ∧ (pop x ≤ cD (cR x) 13 + 2 → noFF (sN (cR x) 2 13) (sN (cR x) 3 13) (sN (cR x) 4 13) = true ∧ gc (cR x) < 5863) ∧ (pop x ≠ 5 → (∀ r, r < 13 → 1 ≤ cR x r → gc (dc (cR x) r) ≤ gc (cR x)) ∧ ∃ r, r < 13 ∧ 1 ≤ cR x r ∧ gc (dc (cR x) r) = gc (cR x)) := by
  obtain ⟨h1, h2, h3⟩ := lf_ok (lf_x hx hp)
  refine ⟨h1, h2, fun h5 => ?_⟩
  obtain ⟨i1, i2⟩ := mo_ok _ _ _ _ _ 13 false (h3 h5)
  constructor
  · intro r hr hc
    rw [← er_gc hr hc (cR_4 x r)]
    refine i1 r hr ?_
    rw [bt_b, sN_bit]
    exact decide_eq_true ⟨hr, hc⟩
  · rcases i2 with i2 | ⟨r, hr, hb, e⟩
    · exact Bool.noConfusion i2
    · rw [bt_b, sN_bit] at hb
      have hc := (of_decide_eq_true hb).2
      exact ⟨r, hr, hc, by rw [← er_gc hr hc (cR_4 x r)]; exact e⟩
theorem V_lt {x : Int64} (hx : in52 x) (hp : pop x = 5 ∨ pop x = 6 ∨ pop x = 7) : V x < 7462 := by
  rcases V_is x with h | ⟨j, hj, h⟩
  · rw [h]
    exact (gc_x hx hp).1
  · rw [h]
    unfold fl
    split
    · rename_i h5
      exact (fl_ok (u1_lt x j) h5).2.1
    · decide
theorem fl_mono {x y : Int64} {c : Nat} (h : adds x c y) (hy : in52 y) {j : Nat} (hj : j < 4) : fl x j ≤ fl y j := by
  by_cases e : c % 4 = j
  · have hu := adds_uc h hj e
    have hc := hy c ((h.2 c).mpr (Or.inr rfl))
    have h1 : 1 ≤ u1 y j (c / 4) := by
      rw [adds_u1 h, if_pos (by omega)]
      omega
    have hs := cS_dc (u1 y j) (c / 4) h1 13
    rw [if_pos (by omega)] at hs
    unfold fl
    rw [hu]
    by_cases h5 : 5 ≤ cS (dc (u1 y j) (c / 4)) 13
    · rw [if_pos h5, if_pos (by omega)]
      exact ((fl_ok (u1_lt y j) (by omega)).2.2 (by omega)).1 _ (by omega) h1
    · rw [if_neg h5]
      exact Nat.zero_le _
  · have hu := adds_un h hj e
    unfold fl
    rw [hu]
    exact Nat.le_refl _
theorem V_mono {x y : Int64} {c : Nat} (h : adds x c y) (hy : in52 y) (hp : pop y = 6 ∨ pop y = 7) : V x ≤ V y := by
  have hc := hy c ((h.2 c).mpr (Or.inr rfl))
  have h1 : 1 ≤ cR y (c / 4) := by
    rw [adds_cR h, if_pos rfl]
    omega
  have hg : gc (cR x) ≤ gc (cR y) := by
    rw [adds_dc h]
    exact ((gc_x hy (Or.inr hp)).2.2 (by omega)).1 _ (by omega) h1
  have f0 := fl_mono h hy (j := 0) (by decide)
  have f1 := fl_mono h hy (j := 1) (by decide)
  have f2 := fl_mono h hy (j := 2) (by decide)
  have f3 := fl_mono h hy (j := 3) (by decide)
  unfold V
  omega
theorem cR_ex {y : Int64} {r : Nat} (h : 1 ≤ cR y r) : ∃ j, j < 4 ∧ mem y (4 * r + j) := by
  have h0 := u1_mem y 0 r
  have h1 := u1_mem y 1 r
  have h2 := u1_mem y 2 r
  have h3 := u1_mem y 3 r
  have l0 := u1_lt y 0 r
  have l1 := u1_lt y 1 r
  have l2 := u1_lt y 2 r
  have l3 := u1_lt y 3 r
  unfold cR at h
  obtain e | e | e | e : u1 y 0 r = 1 ∨ u1 y 1 r = 1 ∨ u1 y 2 r = 1 ∨ u1 y 3 r = 1 := by omega
  · exact ⟨0, by decide, h0.mp e⟩
  · exact ⟨1, by decide, h1.mp e⟩
  · exact ⟨2, by decide, h2.mp e⟩
  · exact ⟨3, by decide, h3.mp e⟩
theorem cS_ex {c : Nat → Nat} : ∀ {k}, 1 ≤ cS c k → ∃ r, r < k ∧ 1 ≤ c r
  | 0, h => absurd h (by unfold cS; omega)
  | k + 1, h => by
    by_cases h1 : 1 ≤ c k
    · exact ⟨k, by omega, h1⟩
    · have : 1 ≤ cS c k := by
        unfold cS at h
        omega
      obtain ⟨r, hr, h2⟩ := cS_ex this
      exact ⟨r, by omega, h2⟩
theorem V_att {y : Int64} (hy : in52 y) (hp : pop y = 6 ∨ pop y = 7) : ∃ c x, adds x c y ∧ V x = V y := by
  suffices hs : ∃ c x, adds x c y ∧ V y ≤ V x by
    obtain ⟨c, x, h1, h2⟩ := hs
    exact ⟨c, x, h1, Nat.le_antisymm (V_mono h1 hy hp) h2⟩
  rcases V_is y with h | ⟨j, hj, h⟩
  · obtain ⟨r, hr, h1, e⟩ := ((gc_x hy (Or.inr hp)).2.2 (by omega)).2
    obtain ⟨j, hj, hm⟩ := cR_ex h1
    obtain ⟨x, ha⟩ := adds_of hm
    refine ⟨_, x, ha, ?_⟩
    rw [h, ← e, show r = (4 * r + j) / 4 by omega, ← adds_dc ha]
    exact gc_V x
  · unfold fl at h
    by_cases h5 : 5 ≤ cS (u1 y j) 13
    · rw [if_pos h5] at h
      by_cases h6 : cS (u1 y j) 13 = 5
      · have hsum := pop_cS hy
        rw [cS_suits] at hsum
        have hex : ∃ i, i < 4 ∧ i ≠ j ∧ 1 ≤ cS (u1 y i) 13 := by
          obtain e | e | e | e : j = 0 ∨ j = 1 ∨ j = 2 ∨ j = 3 := by omega
          all_goals
            subst e
            by_cases g0 : 1 ≤ cS (u1 y 0) 13 ∧ 0 ≠ 3 - 3
            · exact absurd rfl g0.2
            · by_cases k0 : (1 ≤ cS (u1 y 0) 13)
              · first
                | exact ⟨0, by decide, by decide, k0⟩
                | by_cases k1 : (1 ≤ cS (u1 y 1) 13)
                  · exact ⟨1, by decide, by decide, k1⟩
                  · by_cases k2 : (1 ≤ cS (u1 y 2) 13)
                    · exact ⟨2, by decide, by decide, k2⟩
                    · exact ⟨3, by decide, by decide, by omega⟩
              · by_cases k1 : (1 ≤ cS (u1 y 1) 13)
                · first
                  | exact ⟨1, by decide, by decide, k1⟩
                  | by_cases k2 : (1 ≤ cS (u1 y 2) 13)
                    · exact ⟨2, by decide, by decide, k2⟩
                    · exact ⟨3, by decide, by decide, by omega⟩
                · by_cases k2 : (1 ≤ cS (u1 y 2) 13)
                  · first
                    | exact ⟨2, by decide, by decide, k2⟩
                    | exact ⟨3, by decide, by decide, by omega⟩
                  · exact ⟨3, by decide, by first | decide | omega, by omega⟩
        obtain ⟨i, hi, hij, h1⟩ := hex
        obtain ⟨r, hr, h2⟩ := cS_ex h1
        have hm : mem y (4 * r + i) := (u1_mem y i r).mp (by have := u1_lt y i r; omega)
        obtain ⟨x, ha⟩ := adds_of hm
        refine ⟨_, x, ha, Nat.le_trans ?_ (fl_V x hj)⟩
        have hu := adds_un ha hj (by omega)
        unfold fl
        rw [hu, if_pos h5, h]
        exact Nat.le_refl _
      · obtain ⟨r, hr, h1, e⟩ := ((fl_ok (u1_lt y j) h5).2.2 h6).2
        have hm : mem y (4 * r + j) := (u1_mem y j r).mp (by have := u1_lt y j r; omega)
        obtain ⟨x, ha⟩ := adds_of hm
        refine ⟨_, x, ha, Nat.le_trans ?_ (fl_V x hj)⟩
        have hu := adds_uc ha hj (by omega)
        have hs := cS_dc (u1 y j) r h1 13
        rw [if_pos hr] at hs
        unfold fl
        rw [hu, show (4 * r + j) / 4 = r by omega, if_pos (by omega), e, h]
        exact Nat.le_refl _
    · rw [if_neg h5] at h
      obtain ⟨r, hr, h1, e⟩ := ((gc_x hy (Or.inr hp)).2.2 (by omega)).2
      obtain ⟨i, hi, hm⟩ := cR_ex h1
      obtain ⟨x, ha⟩ := adds_of hm
      exact ⟨_, x, ha, by rw [h]; exact Nat.zero_le _⟩
