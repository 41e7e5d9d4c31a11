/-! what ties the class's answers and the model's -/
theorem what_2 {w : Int32} (h0 : ¬ w = 0) (h1 : ¬ w = 1) : (if w < 0 then (2 : Int32) else if w ≤ 1 then 3 else 2) = 2 := by
  by_cases h : w < 0
  · rw [if_pos h]
  · rw [if_neg h]
    by_cases h2 : w ≤ 1
    · obtain ⟨j, hj, e⟩ := nI_of2 (M := 1) (n := 1) rfl h h2
      have : j = 0 ∨ j = 1 := by omega
      rcases this with z | z
      · rw [z] at e; exact absurd e h0
      · rw [z] at e; exact absurd e h1
    · rw [if_neg h2]
/-- how many cards from 52 - n on don't stand -/
def cf (h f : Nat → Int32) (b : Nat) : Nat → Nat
  | 0 => 0
  | n + 1 => (if k_stands h f b (nI (52 - (n + 1))) (-1) = 0 then 1 else 0) + cf h f b n
theorem cf_le (h f : Nat → Int32) (b : Nat) : ∀ n, cf h f b n ≤ n
  | 0 => Nat.le_refl 0
  | n + 1 => by
    have := cf_le h f b n
    unfold cf
    split <;> omega
theorem kf_n (h f : Nat → Int32) (b : Nat) : ∀ (n q : Nat) (w : Nat → Int32), (kf_lp h f b n (nI q) w).1 = nI (q + cf h f b n)
  | 0, q, w => rfl
  | n + 1, q, w => by
    unfold kf_lp cf
    by_cases hc : k_stands h f b (nI (52 - (n + 1))) (-1) = 0
    · rw [if_pos hc, if_pos hc, nI_1, kf_n h f b n]
      congr 1
      omega
    · rw [if_neg hc, if_neg hc, kf_n h f b n, Nat.zero_add]
theorem left_n (h f : Nat → Int32) (b : Nat) (w : Nat → Int32) : (k_left h f b w).1 = nI (cf h f b 52) := by
  have := kf_n h f b 52 0 w
  rw [Nat.zero_add] at this
  exact this
section FR
variable {T : Nat → Int64} {ck : Nat → Int32} {cn : Int32} {ks se bd dk wi sh : Nat → Int32} {ct : Int32} {b j : Nat}
theorem free_mem (hI : iv_ok T ck cn ks se bd b dk j ct wi sh) (c : Nat) : mem (g_free T) c ↔ c < 52 ∧ k_stands se bd b (nI c) (-1) = 0 := by
  unfold g_free
  have hall : mem 4503599627370495 c ↔ c < 52 := by
    unfold mem
    rw [show xN 4503599627370495 = 2 ^ 52 - 1 from by decide +kernel, Nat.testBit_two_pow_sub_one]
    simp
  rw [mem_and, hall]
  constructor
  · intro ⟨h1, h2⟩
    rw [mem_not _ (by omega)] at h2
    exact ⟨h1, Classical.not_not.mp (fun z => h2 ((iv_stand hI h1).mpr z))⟩
  · intro ⟨h1, h2⟩
    rw [mem_not _ (by omega)]
    exact ⟨h1, fun z => (iv_stand hI h1).mp z h2⟩
theorem free_cf (hI : iv_ok T ck cn ks se bd b dk j ct wi sh) : ∀ n, n ≤ 52 → cf se bd b n + pN (xN (g_free T)) (52 - n) = pN (xN (g_free T)) 52
  | 0, _ => by
    rw [Nat.sub_zero]
    exact Nat.zero_add _
  | n + 1, h => by
    have ih := free_cf hI n (by omega)
    have e : pN (xN (g_free T)) (52 - n) = pN (xN (g_free T)) (52 - (n + 1)) + bN (xN (g_free T)) (52 - (n + 1)) := by
      rw [← pN_S]
      congr 1
      omega
    have hb := free_mem hI (52 - (n + 1))
    have hl := bN_lt (xN (g_free T)) (52 - (n + 1))
    have hk : cf se bd b (n + 1) = (if k_stands se bd b (nI (52 - (n + 1))) (-1) = 0 then 1 else 0) + cf se bd b n := rfl
    rw [hk]
    generalize pN (xN (g_free T)) 52 = P at ih ⊢
    by_cases hc : k_stands se bd b (nI (52 - (n + 1))) (-1) = 0
    · rw [if_pos hc]
      have : bN (xN (g_free T)) (52 - (n + 1)) = 1 := (tb_bN _ _).mp (hb.mpr ⟨by omega, hc⟩)
      omega
    · rw [if_neg hc]
      have : ¬ bN (xN (g_free T)) (52 - (n + 1)) = 1 := fun z => hc (hb.mp ((tb_bN _ _).mpr z)).2
      omega
theorem free_pop (hI : iv_ok T ck cn ks se bd b dk j ct wi sh) : pop (g_free T) = cf se bd b 52 := by
  have h1 := free_cf hI 52 (Nat.le_refl _)
  rw [Nat.sub_self, show pN (xN (g_free T)) 0 = 0 from rfl, Nat.add_zero] at h1
  rw [h1]
  have h2 : ∀ n, pN (xN (g_free T)) (52 + n) = pN (xN (g_free T)) 52 := by
    intro n
    induction n with
    | zero => rfl
    | succ n ih =>
      rw [show 52 + (n + 1) = (52 + n) + 1 by omega, pN_S _ (52 + n), ih]
      have hl := bN_lt (xN (g_free T)) (52 + n)
      have : ¬ bN (xN (g_free T)) (52 + n) = 1 := fun z => absurd ((free_mem hI (52 + n)).mp ((tb_bN _ _).mpr z)).1 (by omega)
      omega
  exact h2 12
theorem free_n (hI : iv_ok T ck cn ks se bd b dk j ct wi sh) : f_bc (g_free T) = nI (cf se bd b 52) := by rw [bc_is, free_pop hI]
end FR
/-- a card stands elsewhere than at seat q -/
theorem seat_free {T : Nat → Int64} {ck : Nat → Int32} {cn : Int32} {ks se bd dk wi sh : Nat → Int32} {ct : Int32} {b j : Nat} (hI : iv_ok T ck cn ks se bd b dk j ct wi sh) {q x : Nat} (hq : q < 6) (hx : x < 52) : mem (g_stand T &&& (T q ^^^ -1)) x ↔ ¬ k_stands se bd b (nI x) (nI q) = 0 := by
  have hb := hI.1
  have hd := hI.2.2.2.2.2.2.2.1.2.2.2
  rw [mem_and, mem_not _ (by omega), stand_mem, stands_iff se bd b (nI x) (nI q) hb]
  constructor
  · intro ⟨⟨p, hp, hm⟩, hn⟩ ⟨z1, z2⟩
    by_cases h6 : p = 6
    · rw [h6, iv_T6 hI] at hm
      obtain ⟨i, h1, h2, h3⟩ := hm
      exact z2 i h1 h2
    · rw [iv_Tm hI (by omega)] at hm
      have hpq : p = q := by
        rcases hm.2 with h | h
        · have := (nI_eq (by omega) (by omega)).mp (z1 (2 * p) (by omega) h)
          omega
        · have := (nI_eq (by omega) (by omega)).mp (z1 (2 * p + 1) (by omega) h)
          omega
      subst hpq
      exact hn ((iv_Tm hI hq x).mpr hm)
  · intro h
    have h9 : (∃ i, i < 12 ∧ se i = nI x ∧ i / 2 ≠ q) ∨ ∃ i, i < b ∧ bd i = nI x := by
      apply Classical.byContradiction
      intro h2
      apply h
      refine ⟨fun i hi e => ?_, fun i hi e => h2 (Or.inr ⟨i, hi, e⟩)⟩
      by_cases e2 : i / 2 = q
      · rw [e2]
      · exact absurd (Or.inl ⟨i, hi, e, e2⟩) h2
    rcases h9 with ⟨i, hi, e, hne⟩ | ⟨i, hi, e⟩
    · have hne1 : se i ≠ -1 := by rw [e]; exact nI_m1 (by omega)
      refine ⟨⟨i / 2, by omega, (iv_Tm hI (by omega) x).mpr ⟨hx, ?_⟩⟩, fun z => ?_⟩
      · have e2 : i = 2 * (i / 2) ∨ i = 2 * (i / 2) + 1 := by omega
        rcases e2 with e2 | e2
        · rw [← e2]; exact Or.inl e
        · rw [← e2]; exact Or.inr e
      · rcases ((iv_Tm hI hq x).mp z).2 with z | z
        · exact hd.1 i (2 * q) hi (by omega) (by omega) hne1 (by rw [e, z])
        · exact hd.1 i (2 * q + 1) hi (by omega) (by omega) hne1 (by rw [e, z])
    · refine ⟨⟨6, by omega, (iv_T6 hI x).mpr ⟨i, hi, e, hx⟩⟩, fun z => ?_⟩
      rcases ((iv_Tm hI hq x).mp z).2 with z | z
      · exact hd.2.1 (2 * q) i (by omega) hi (by rw [z]; exact nI_m1 (by omega)) (by rw [e, z])
      · exact hd.2.1 (2 * q + 1) i (by omega) hi (by rw [z]; exact nI_m1 (by omega)) (by rw [e, z])
theorem px_up_ite {T : Nat → Int64} {dk : Nat → Int32} {dn : Int32} {P : Prop} [Decidable P] {a b : String ⊕ Option Value} : px_up T dk dn (if P then a else b) = if P then px_up T dk dn a else px_up T dk dn b := by
  split <;> rfl
theorem px_up_l {T : Nat → Int64} {dk : Nat → Int32} {dn : Int32} {E : String} : px_up T dk dn (.inl E) = .inl E := rfl
theorem px_up_r {T : Nat → Int64} {dk : Nat → Int32} {dn : Int32} {v : Option Value} : px_up T dk dn (.inr v) = .inr (v, T, dk, dn) := rfl
theorem tie_seat {T : Nat → Int64} {ck : Nat → Int32} {cn : Int32} {th : Int32} {ks : Nat → Int32} {kc : Int32} {rn : Nat → Int32} {oc : Nat → Int32} {hd : Nat → Int32} {hs : Int32} {se : Nat → Int32} {bd : Nat → Int32} {dk : Nat → Int32} {ct : Int32} {bo : Int32} {wi : Nat → Int32} {sh : Nat → Int32} {lf : Nat → Int32} {lc : Int32} {mo : Int32} {ah : Int32} {b j : Nat} (hI : iv_ok T ck cn ks se bd b dk j ct wi sh)  (a1 : Int32) (a2 : Int32) (a3 : Int32) : ∀ (k : Int32) (z : Int64) (T1 : Nat → Int64) (dk1 : Nat → Int32) (dn1 : Int32) (v : Option Value) (S1 : mS), ((((if q_seat a1 then .inl ex_IO else if q_card a2 then .inl ex_IA else if q_card a3 then .inl ex_IA else if a2 = a3 then .inr (some (.int 0), T, ck, cn) else if (jl 1 a2 ||| jl 1 a3) &&& (g_stand T &&& (T a1.toNatClampNeg ^^^ -1)) = 0 then .inr (some (.int 1), vp_updL T a1.toNatClampNeg (jl 1 a2 ||| jl 1 a3), ck, cn) else .inr (some (.int 0), T, ck, cn)) : mu_R) = .inl ex_IO ∧ k = 1 ∧ T1 = T ∧ dk1 = ck ∧ dn1 = cn) ∨ (((if q_seat a1 then .inl ex_IO else if q_card a2 then .inl ex_IA else if q_card a3 then .inl ex_IA else if a2 = a3 then .inr (some (.int 0), T, ck, cn) else if (jl 1 a2 ||| jl 1 a3) &&& (g_stand T &&& (T a1.toNatClampNeg ^^^ -1)) = 0 then .inr (some (.int 1), vp_updL T a1.toNatClampNeg (jl 1 a2 ||| jl 1 a3), ck, cn) else .inr (some (.int 0), T, ck, cn)) : mu_R) = .inl ex_IA ∧ k = 2 ∧ T1 = T ∧ dk1 = ck ∧ dn1 = cn) ∨ (∃ v : Int32, ((if q_seat a1 then .inl ex_IO else if q_card a2 then .inl ex_IA else if q_card a3 then .inl ex_IA else if a2 = a3 then .inr (some (.int 0), T, ck, cn) else if (jl 1 a2 ||| jl 1 a3) &&& (g_stand T &&& (T a1.toNatClampNeg ^^^ -1)) = 0 then .inr (some (.int 1), vp_updL T a1.toNatClampNeg (jl 1 a2 ||| jl 1 a3), ck, cn) else .inr (some (.int 0), T, ck, cn)) : mu_R) = .inr (some (.int v), T1, dk1, dn1) ∧ k = 0 ∧ z = if v = 0 then 0 else 1)) → (fun v9 S9 => v9 = some (.int (k_seatV se bd b a1 a2 a3)) ∧ S9 = ((k_seatT a1 a2 a3), ks, kc, rn, oc, hd, hs, (if k_seatV se bd b a1 a2 a3 = 0 then se else (upd (upd se (2 * a1).toNatClampNeg a2) (2 * a1 + 1).toNatClampNeg a3)), bd, (nI b), dk, (nI j), (if k_seatV se bd b a1 a2 a3 = 0 then ct else 0), bo, wi, sh, lf, lc, mo, ah)) v S1 → ∃ y : Int32, v = some (.int y) ∧ k = S1.1 ∧ (k = 0 → z = if y = 0 then 0 else 1) ∧ Inv T1 dk1 dn1 S1 := by
  intro k z T1 dk1 dn1 v S1 h1 h2
  obtain ⟨rfl, rfl⟩ := h2
  have hb5 := hI.1
  by_cases hq : q_seat a1
  · simp only [if_pos hq] at h1
    have hm : ¬ m_noSeat a1 = 0 := fun y => (seat_iff a1).mp y hq
    have hv : k_seatV se bd b a1 a2 a3 = 0 := by unfold k_seatV; rw [if_neg hm]
    have ht : k_seatT a1 a2 a3 = 1 := by unfold k_seatT; rw [if_neg hm]
    rcases h1 with ⟨-, rfl, rfl, rfl, rfl⟩ | ⟨h1, -⟩ | ⟨w, h1, -⟩
    · refine ⟨_, rfl, ht.symm, fun y => absurd y (by decide), ?_⟩
      rw [hv, if_pos rfl, if_pos rfl]
      exact Inv_mk hI
    · exact absurd (Sum.inl.inj h1) (by decide +kernel)
    · cases h1
  · obtain ⟨q, hq6, rfl⟩ := seat_of hq
    have hm := (seat_iff (nI q)).mpr hq
    simp only [if_neg hq, nI_clamp (show q < 2 ^ 31 by omega)] at h1
    rw [c2 hq6, c21 hq6]
    by_cases hx : q_card a2
    · have hx0 : ¬ m_noCard a2 = 0 := fun y => (card_iff a2).mp y hx
      have hv : k_seatV se bd b (nI q) a2 a3 = 0 := by unfold k_seatV; rw [if_pos hm, if_neg hx0]
      have ht : k_seatT (nI q) a2 a3 = 2 := by unfold k_seatT; rw [if_pos hm, if_neg hx0]
      simp only [if_pos hx] at h1
      rcases h1 with ⟨h1, -⟩ | ⟨-, rfl, rfl, rfl, rfl⟩ | ⟨w, h1, -⟩
      · exact absurd (Sum.inl.inj h1) (by decide +kernel)
      · refine ⟨_, rfl, ht.symm, fun y => absurd y (by decide), ?_⟩
        rw [hv, if_pos rfl, if_pos rfl]
        exact Inv_mk hI
      · cases h1
    · obtain ⟨x, hx52, rfl⟩ := card_of hx
      have hx0 := (card_iff (nI x)).mpr hx
      simp only [if_neg hx] at h1
      by_cases hy : q_card a3
      · have hy0 : ¬ m_noCard a3 = 0 := fun y => (card_iff a3).mp y hy
        have hv : k_seatV se bd b (nI q) (nI x) a3 = 0 := by unfold k_seatV; rw [if_pos hm, if_pos hx0, if_neg hy0]
        have ht : k_seatT (nI q) (nI x) a3 = 2 := by unfold k_seatT; rw [if_pos hm, if_pos hx0, if_neg hy0]
        simp only [if_pos hy] at h1
        rcases h1 with ⟨h1, -⟩ | ⟨-, rfl, rfl, rfl, rfl⟩ | ⟨w, h1, -⟩
        · exact absurd (Sum.inl.inj h1) (by decide +kernel)
        · refine ⟨_, rfl, ht.symm, fun y => absurd y (by decide), ?_⟩
          rw [hv, if_pos rfl, if_pos rfl]
          exact Inv_mk hI
        · cases h1
      · obtain ⟨y, hy52, rfl⟩ := card_of hy
        have hy0 := (card_iff (nI y)).mpr hy
        have ht : k_seatT (nI q) (nI x) (nI y) = 0 := by unfold k_seatT; rw [if_pos hm, if_pos hx0, if_pos hy0]
        simp only [if_neg hy] at h1
        by_cases hxy : x = y
        · subst hxy
          have hv : k_seatV se bd b (nI q) (nI x) (nI x) = 0 := by unfold k_seatV; rw [if_pos hm, if_pos hx0, if_pos hx0, if_pos rfl]
          simp only [if_pos] at h1
          rcases h1 with ⟨h1, -⟩ | ⟨h1, -⟩ | ⟨w, h1, rfl, rfl⟩
          · cases h1
          · cases h1
          · obtain ⟨e1, rfl, rfl, rfl⟩ := inr_mu h1
            cases e1
            refine ⟨_, rfl, ht.symm, fun _ => by rw [hv], ?_⟩
            rw [hv, if_pos rfl, if_pos rfl]
            exact Inv_mk hI
        · have hxy2 : ¬ nI x = nI y := fun w => hxy ((nI_eq (by omega) (by omega)).mp w)
          simp only [if_neg hxy2] at h1
          have hst := seat_free hI hq6 hx52
          have hst2 := seat_free hI hq6 hy52
          by_cases hc : (jl 1 (nI x) ||| jl 1 (nI y)) &&& (g_stand T &&& (T q ^^^ -1)) = 0
          · have s1 : k_stands se bd b (nI x) (nI q) = 0 := Classical.not_not.mp (fun w => (mem_and0 _ _).mp hc x ((mem_or _ _ _).mpr (Or.inl ((mem_bit (by omega) x).mpr rfl))) (hst.mpr w))
            have s2 : k_stands se bd b (nI y) (nI q) = 0 := Classical.not_not.mp (fun w => (mem_and0 _ _).mp hc y ((mem_or _ _ _).mpr (Or.inr ((mem_bit (by omega) y).mpr rfl))) (hst2.mpr w))
            have hv : k_seatV se bd b (nI q) (nI x) (nI y) = 1 := by unfold k_seatV; rw [if_pos hm, if_pos hx0, if_pos hy0, if_neg hxy2, if_pos s1, if_pos s2]
            simp only [if_pos hc] at h1
            rcases h1 with ⟨h1, -⟩ | ⟨h1, -⟩ | ⟨w, h1, rfl, rfl⟩
            · cases h1
            · cases h1
            · obtain ⟨e1, rfl, rfl, rfl⟩ := inr_mu h1
              cases e1
              refine ⟨_, rfl, ht.symm, fun _ => by rw [hv], ?_⟩
              rw [hv, if_neg (show ¬ (1 : Int32) = 0 by decide), if_neg (show ¬ (1 : Int32) = 0 by decide)]
              have r1 := (stands_iff se bd b (nI x) (nI q) hb5).mp s1
              have r2 := (stands_iff se bd b (nI y) (nI q) hb5).mp s2
              refine Inv_mk (iv_put hI hq6 (nI x) (nI y) _ (Or.inr ⟨x, y, hx52, hy52, hxy, rfl, rfl, rfl, fun i hi hne => ⟨fun w => ?_, fun w => ?_⟩, fun i hi => ⟨r1.2 i hi, r2.2 i hi⟩⟩))
              · exact hne ((nI_eq (by omega) (by omega)).mp (r1.1 i hi w))
              · exact hne ((nI_eq (by omega) (by omega)).mp (r2.1 i hi w))
          · have hn : ¬ (k_stands se bd b (nI x) (nI q) = 0 ∧ k_stands se bd b (nI y) (nI q) = 0) := fun w => hc ((mem_and0 _ _).mpr (fun d h3 h4 => by
              rw [mem_or, mem_bit (by omega), mem_bit (by omega)] at h3
              rcases h3 with h3 | h3
              · rw [h3] at h4; exact hst.mp h4 w.1
              · rw [h3] at h4; exact hst2.mp h4 w.2))
            have hv : k_seatV se bd b (nI q) (nI x) (nI y) = 0 := by
              unfold k_seatV
              rw [if_pos hm, if_pos hx0, if_pos hy0, if_neg hxy2]
              by_cases s1 : k_stands se bd b (nI x) (nI q) = 0
              · rw [if_pos s1, if_neg (fun w => hn ⟨s1, w⟩)]
              · rw [if_neg s1]
            simp only [if_neg hc] at h1
            rcases h1 with ⟨h1, -⟩ | ⟨h1, -⟩ | ⟨w, h1, rfl, rfl⟩
            · cases h1
            · cases h1
            · obtain ⟨e1, rfl, rfl, rfl⟩ := inr_mu h1
              cases e1
              refine ⟨_, rfl, ht.symm, fun _ => by rw [hv], ?_⟩
              rw [hv, if_pos rfl, if_pos rfl]
              exact Inv_mk hI
theorem tie_leave {T : Nat → Int64} {ck : Nat → Int32} {cn : Int32} {th : Int32} {ks : Nat → Int32} {kc : Int32} {rn : Nat → Int32} {oc : Nat → Int32} {hd : Nat → Int32} {hs : Int32} {se : Nat → Int32} {bd : Nat → Int32} {dk : Nat → Int32} {ct : Int32} {bo : Int32} {wi : Nat → Int32} {sh : Nat → Int32} {lf : Nat → Int32} {lc : Int32} {mo : Int32} {ah : Int32} {b j : Nat} (hI : iv_ok T ck cn ks se bd b dk j ct wi sh)  (a1 : Int32) : ∀ (k : Int32) (z : Int64) (T1 : Nat → Int64) (dk1 : Nat → Int32) (dn1 : Int32) (v : Option Value) (S1 : mS), ((((if q_seat a1 then .inl ex_IO else if T a1.toNatClampNeg = 0 then .inr (some (.int 0), vp_updL T a1.toNatClampNeg 0, ck, cn) else .inr (some (.int 1), vp_updL T a1.toNatClampNeg 0, ck, cn)) : mu_R) = .inl ex_IO ∧ k = 1 ∧ T1 = T ∧ dk1 = ck ∧ dn1 = cn) ∨ (∃ v : Int32, ((if q_seat a1 then .inl ex_IO else if T a1.toNatClampNeg = 0 then .inr (some (.int 0), vp_updL T a1.toNatClampNeg 0, ck, cn) else .inr (some (.int 1), vp_updL T a1.toNatClampNeg 0, ck, cn)) : mu_R) = .inr (some (.int v), T1, dk1, dn1) ∧ k = 0 ∧ z = if v = 0 then 0 else 1)) → (fun v9 S9 => v9 = some (.int (k_leaveV se a1)) ∧ S9 = ((if m_noSeat a1 = 0 then 0 else 1), ks, kc, rn, oc, hd, hs, (if k_leaveV se a1 = 0 then se else (upd (upd se (2 * a1).toNatClampNeg (-1)) (2 * a1 + 1).toNatClampNeg (-1))), bd, (nI b), dk, (nI j), (if k_leaveV se a1 = 0 then ct else 0), bo, wi, sh, lf, lc, mo, ah)) v S1 → ∃ y : Int32, v = some (.int y) ∧ k = S1.1 ∧ (k = 0 → z = if y = 0 then 0 else 1) ∧ Inv T1 dk1 dn1 S1 := by
  intro k z T1 dk1 dn1 v S1 h1 h2
  obtain ⟨rfl, rfl⟩ := h2
  by_cases hq : q_seat a1
  · simp only [if_pos hq] at h1
    have hm : ¬ m_noSeat a1 = 0 := fun y => (seat_iff a1).mp y hq
    have hv : k_leaveV se a1 = 0 := by unfold k_leaveV; rw [if_neg hm]
    rcases h1 with ⟨-, rfl, rfl, rfl, rfl⟩ | ⟨w, h1, -⟩
    · refine ⟨_, rfl, (if_neg hm).symm, fun y => absurd y (by decide), ?_⟩
      rw [hv, if_pos rfl, if_pos rfl]
      exact Inv_mk hI
    · cases h1
  · obtain ⟨q, hq6, rfl⟩ := seat_of hq
    have hm := (seat_iff (nI q)).mpr hq
    simp only [if_neg hq, nI_clamp (show q < 2 ^ 31 by omega)] at h1
    rw [c2 hq6, c21 hq6]
    by_cases h0 : T q = 0
    · have hse := (iv_T0 hI hq6).mp h0
      have hv : k_leaveV se (nI q) = 0 := by unfold k_leaveV; rw [if_pos hm, c2 hq6, if_pos hse]
      simp only [if_pos h0] at h1
      rcases h1 with ⟨h1, -⟩ | ⟨w, h1, rfl, rfl⟩
      · cases h1
      · obtain ⟨e1, rfl, rfl, rfl⟩ := inr_mu h1
        cases e1
        refine ⟨_, rfl, (if_pos hm).symm, fun _ => by rw [hv], ?_⟩
        rw [hv, if_pos rfl, if_pos rfl]
        refine Inv_mk (iv_T hI (fun p hp => ?_))
        by_cases e : p = q
        · rw [e, pk_uLs, h0]
        · rw [pk_uLn e]
    · have hse : ¬ se (2 * q) = -1 := fun y => h0 ((iv_T0 hI hq6).mpr y)
      have hv : k_leaveV se (nI q) = 1 := by unfold k_leaveV; rw [if_pos hm, c2 hq6, if_neg hse]
      simp only [if_neg h0] at h1
      rcases h1 with ⟨h1, -⟩ | ⟨w, h1, rfl, rfl⟩
      · cases h1
      · obtain ⟨e1, rfl, rfl, rfl⟩ := inr_mu h1
        cases e1
        refine ⟨_, rfl, (if_pos hm).symm, fun _ => by rw [hv], ?_⟩
        rw [hv, if_neg (show ¬ (1 : Int32) = 0 by decide), if_neg (show ¬ (1 : Int32) = 0 by decide)]
        exact Inv_mk (iv_put hI hq6 (-1) (-1) 0 (Or.inl ⟨rfl, rfl, rfl⟩))
theorem tie_board {T : Nat → Int64} {ck : Nat → Int32} {cn : Int32} {th : Int32} {ks : Nat → Int32} {kc : Int32} {rn : Nat → Int32} {oc : Nat → Int32} {hd : Nat → Int32} {hs : Int32} {se : Nat → Int32} {bd : Nat → Int32} {dk : Nat → Int32} {ct : Int32} {bo : Int32} {wi : Nat → Int32} {sh : Nat → Int32} {lf : Nat → Int32} {lc : Int32} {mo : Int32} {ah : Int32} {b j : Nat} (hI : iv_ok T ck cn ks se bd b dk j ct wi sh)  (a1 : Int32) : ∀ (k : Int32) (z : Int64) (T1 : Nat → Int64) (dk1 : Nat → Int32) (dn1 : Int32) (v : Option Value) (S1 : mS), ((((if q_card a1 then .inl ex_IA else if 5 - g_bs T = 0 then .inr (some (.int (-1)), T, ck, cn) else if g_stand T &&& jl 1 a1 = 0 then .inr (some (.int (g_bs (g_T1 T a1))), g_T1 T a1, ck, cn) else .inr (some (.int (-1)), T, ck, cn)) : mu_R) = .inl ex_IA ∧ k = 1 ∧ T1 = T ∧ dk1 = ck ∧ dn1 = cn) ∨ (∃ v : Int32, ((if q_card a1 then .inl ex_IA else if 5 - g_bs T = 0 then .inr (some (.int (-1)), T, ck, cn) else if g_stand T &&& jl 1 a1 = 0 then .inr (some (.int (g_bs (g_T1 T a1))), g_T1 T a1, ck, cn) else .inr (some (.int (-1)), T, ck, cn)) : mu_R) = .inr (some (.int v), T1, dk1, dn1) ∧ k = 0 ∧ z = v.toInt64)) → (fun v9 S9 => v9 = some (.int (k_boardV se bd b a1)) ∧ S9 = ((if m_noCard a1 = 0 then 0 else 1), ks, kc, rn, oc, hd, hs, se, (if k_boardC se bd b a1 = 0 then bd else upd bd (nI b).toNatClampNeg a1), (if k_boardC se bd b a1 = 0 then nI b else nI b + 1), dk, (nI j), (if k_boardC se bd b a1 = 0 then ct else 0), bo, wi, sh, lf, lc, mo, ah)) v S1 → ∃ y : Int32, v = some (.int y) ∧ k = S1.1 ∧ (k = 0 → z = y.toInt64) ∧ Inv T1 dk1 dn1 S1 := by
  intro k z T1 dk1 dn1 v S1 h1 h2
  obtain ⟨rfl, rfl⟩ := h2
  by_cases hq : q_card a1
  · simp only [if_pos hq] at h1
    have hm : ¬ m_noCard a1 = 0 := fun y => (card_iff a1).mp y hq
    have hv : k_boardC se bd b a1 = 0 := by unfold k_boardC; rw [if_neg hm]
    rcases h1 with ⟨-, rfl, rfl, rfl, rfl⟩ | ⟨w, h1, -⟩
    · refine ⟨_, rfl, (if_neg hm).symm, fun y => absurd y (by decide), ?_⟩
      rw [hv, if_pos rfl, if_pos rfl, if_pos rfl]
      exact Inv_mk hI
    · cases h1
  · obtain ⟨c, hc, rfl⟩ := card_of hq
    have hm := (card_iff (nI c)).mpr hq
    have hb5 := hI.1
    simp only [if_neg hq, iv_bs hI] at h1
    by_cases h5 : b = 5
    · subst h5
      have hv : k_boardC se bd 5 (nI c) = 0 := by unfold k_boardC; rw [if_pos hm, if_pos (show nI 5 = 5 from rfl)]
      have hw : k_boardV se bd 5 (nI c) = -1 := by unfold k_boardV; rw [if_pos hm, if_pos (show nI 5 = 5 from rfl)]
      simp only [if_pos (show 5 - nI 5 = 0 from by decide)] at h1
      rcases h1 with ⟨h1, -⟩ | ⟨w, h1, rfl, rfl⟩
      · cases h1
      · obtain ⟨e1, rfl, rfl, rfl⟩ := inr_mu h1
        cases e1
        refine ⟨_, rfl, (if_pos hm).symm, fun _ => by rw [hw], ?_⟩
        rw [hv, if_pos rfl, if_pos rfl, if_pos rfl]
        exact Inv_mk hI
    · have hn5 : ¬ nI b = 5 := fun y => h5 ((nI_eq (b := 5) (by omega) (by decide)).mp y)
      have hn0 : ¬ 5 - nI b = 0 := by
        rw [show 5 - nI b = nI (5 - b) from pk_sub (a := 5) (by omega)]
        exact nI_ne0 (by omega) (by omega)
      simp only [if_neg hn0] at h1
      by_cases hs : k_stands se bd b (nI c) (-1) = 0
      · have hs2 : g_stand T &&& jl 1 (nI c) = 0 := (mem_and0 _ _).mpr (fun d h3 h4 => by
          rw [mem_bit (by omega)] at h4
          subst h4
          exact (iv_stand hI hc).mp h3 hs)
        have hN := iv_card hI hc (by omega) hs
        have hv : k_boardC se bd b (nI c) = 1 := by unfold k_boardC; rw [if_pos hm, if_neg hn5, if_pos hs]
        have hw : k_boardV se bd b (nI c) = nI b + 1 := by unfold k_boardV; rw [if_pos hm, if_neg hn5, if_pos hs]
        simp only [if_pos hs2] at h1
        rcases h1 with ⟨h1, -⟩ | ⟨w, h1, rfl, rfl⟩
        · cases h1
        · obtain ⟨e1, rfl, rfl, rfl⟩ := inr_mu h1
          have e1 : g_bs (g_T1 T (nI c)) = w := by cases e1; rfl
          refine ⟨_, rfl, (if_pos hm).symm, fun _ => ?_, ?_⟩
          · rw [hw, ← e1, nI_1]
            exact congrArg Int32.toInt64 (iv_bs hN)
          · rw [hv, if_neg (show ¬ (1 : Int32) = 0 by decide), if_neg (show ¬ (1 : Int32) = 0 by decide), if_neg (show ¬ (1 : Int32) = 0 by decide), nI_1, nI_clamp (by omega)]
            exact Inv_mk hN
      · have hs2 : ¬ g_stand T &&& jl 1 (nI c) = 0 := fun y => (mem_and0 _ _).mp y c ((iv_stand hI hc).mpr hs) ((mem_bit (by omega) c).mpr rfl)
        have hv : k_boardC se bd b (nI c) = 0 := by unfold k_boardC; rw [if_pos hm, if_neg hn5, if_neg hs]
        have hw : k_boardV se bd b (nI c) = -1 := by unfold k_boardV; rw [if_pos hm, if_neg hn5, if_neg hs]
        simp only [if_neg hs2] at h1
        rcases h1 with ⟨h1, -⟩ | ⟨w, h1, rfl, rfl⟩
        · cases h1
        · obtain ⟨e1, rfl, rfl, rfl⟩ := inr_mu h1
          cases e1
          refine ⟨_, rfl, (if_pos hm).symm, fun _ => by rw [hw], ?_⟩
          rw [hv, if_pos rfl, if_pos rfl, if_pos rfl]
          exact Inv_mk hI
theorem tie_cards {T : Nat → Int64} {ck : Nat → Int32} {cn : Int32} {th : Int32} {ks : Nat → Int32} {kc : Int32} {rn : Nat → Int32} {oc : Nat → Int32} {hd : Nat → Int32} {hs : Int32} {se : Nat → Int32} {bd : Nat → Int32} {dk : Nat → Int32} {ct : Int32} {bo : Int32} {wi : Nat → Int32} {sh : Nat → Int32} {lf : Nat → Int32} {lc : Int32} {mo : Int32} {ah : Int32} {b j : Nat} (hI : iv_ok T ck cn ks se bd b dk j ct wi sh)  (a1 : Int32) : ∀ (k : Int32) (z : Int64) (T1 : Nat → Int64) (dk1 : Nat → Int32) (dn1 : Int32) (v : Option Value) (S1 : mS), (((px_up T ck cn (if a1 = 6 then r_l (T a1.toNatClampNeg) else if q_seat a1 then .inl ex_IO else r_l (T a1.toNatClampNeg))) = .inl ex_IO ∧ k = 1 ∧ T1 = T ∧ dk1 = ck ∧ dn1 = cn) ∨ (∃ v : Int64, (px_up T ck cn (if a1 = 6 then r_l (T a1.toNatClampNeg) else if q_seat a1 then .inl ex_IO else r_l (T a1.toNatClampNeg))) = .inr (some (.long v), T1, dk1, dn1) ∧ k = 0 ∧ z = v)) → (fun v9 S9 => v9 = some (.long (if a1 = 6 then k_bset bd b else if m_noSeat a1 = 0 then (if se (2 * a1).toNatClampNeg = -1 then 0 else jl 1 (se (2 * a1).toNatClampNeg) ||| jl 1 (se (2 * a1 + 1).toNatClampNeg)) else 0)) ∧ S9 = ((if a1 = 6 then 0 else if m_noSeat a1 = 0 then 0 else 1), ks, kc, rn, oc, hd, hs, se, bd, (nI b), dk, (nI j), ct, bo, wi, sh, lf, lc, mo, ah)) v S1 → ∃ y : Int64, v = some (.long y) ∧ k = S1.1 ∧ (k = 0 → z = y) ∧ Inv T1 dk1 dn1 S1 := by
  intro k z T1 dk1 dn1 v S1 h1 h2
  obtain ⟨rfl, rfl⟩ := h2
  simp only [px_up_ite, px_up_l, px_up_r] at h1
  by_cases h6 : a1 = 6
  · simp only [if_pos h6] at h1 ⊢
    rcases h1 with ⟨h1, -⟩ | ⟨w, h1, rfl, rfl⟩
    · cases h1
    · obtain ⟨e1, rfl, rfl, rfl⟩ := inr_mu h1
      cases e1
      refine ⟨_, rfl, rfl, fun _ => ?_, Inv_mk hI⟩
      rw [h6]
      exact hI.2.2.2.2.2.2.2.1.2.2.1
  · simp only [if_neg h6] at h1 ⊢
    by_cases hq : q_seat a1
    · have hm : ¬ m_noSeat a1 = 0 := fun y => (seat_iff a1).mp y hq
      simp only [if_pos hq, if_neg hm] at h1 ⊢
      rcases h1 with ⟨-, rfl, rfl, rfl, rfl⟩ | ⟨w, h1, -⟩
      · exact ⟨_, rfl, rfl, fun y => absurd y (by decide), Inv_mk hI⟩
      · cases h1
    · obtain ⟨q, hq6, rfl⟩ := seat_of hq
      have hm := (seat_iff (nI q)).mpr hq
      simp only [if_neg hq, if_pos hm, nI_clamp (show q < 2 ^ 31 by omega), c2 hq6, c21 hq6] at h1 ⊢
      rcases h1 with ⟨h1, -⟩ | ⟨w, h1, rfl, rfl⟩
      · cases h1
      · obtain ⟨e1, rfl, rfl, rfl⟩ := inr_mu h1
        cases e1
        exact ⟨_, rfl, rfl, fun _ => hI.2.2.2.2.2.2.2.1.2.1 q hq6, Inv_mk hI⟩
theorem tie_boards {T : Nat → Int64} {ck : Nat → Int32} {cn : Int32} {th : Int32} {ks : Nat → Int32} {kc : Int32} {rn : Nat → Int32} {oc : Nat → Int32} {hd : Nat → Int32} {hs : Int32} {se : Nat → Int32} {bd : Nat → Int32} {dk : Nat → Int32} {ct : Int32} {bo : Int32} {wi : Nat → Int32} {sh : Nat → Int32} {lf : Nat → Int32} {lc : Int32} {mo : Int32} {ah : Int32} {b j : Nat} (hI : iv_ok T ck cn ks se bd b dk j ct wi sh)   : ∀ (k : Int32) (z : Int64) (T1 : Nat → Int64) (dk1 : Nat → Int32) (dn1 : Int32) (v : Option Value) (S1 : mS), (((px_up T ck cn (if g_bs T < 3 then .inl ex_IS else r_i (g_boards (5 - g_bs T) (f_bc (g_free T))))) = .inl ex_IS ∧ k = 1 ∧ T1 = T ∧ dk1 = ck ∧ dn1 = cn) ∨ (∃ v : Int32, (px_up T ck cn (if g_bs T < 3 then .inl ex_IS else r_i (g_boards (5 - g_bs T) (f_bc (g_free T))))) = .inr (some (.int v), T1, dk1, dn1) ∧ k = 0 ∧ z = v.toInt64)) → (fun v9 S9 => v9 = some (.int (if 3 ≤ nI b then (if nI b = 5 then 1 else if nI b = 4 then (k_left se bd b lf).1 else (k_left se bd b lf).1 * ((k_left se bd b lf).1 - 1) / 2) else 0)) ∧ ∃ (lf' : Nat → Int32) (lc' : Int32), S9 = ((if 3 ≤ nI b then 0 else 1), ks, kc, rn, oc, hd, hs, se, bd, (nI b), dk, (nI j), ct, bo, wi, sh, lf', lc', mo, ah)) v S1 → ∃ y : Int32, v = some (.int y) ∧ k = S1.1 ∧ (k = 0 → z = y.toInt64) ∧ Inv T1 dk1 dn1 S1 := by
  intro k z T1 dk1 dn1 v S1 h1 h2
  obtain ⟨rfl, lf', lc', rfl⟩ := h2
  have hb5 := hI.1
  simp only [px_up_ite, px_up_l, px_up_r, iv_bs hI, free_n hI, left_n] at h1 ⊢
  by_cases h3 : nI b < 3
  · have h3n : ¬ 3 ≤ nI b := Int32.not_le.mpr h3
    simp only [if_pos h3, if_neg h3n] at h1 ⊢
    rcases h1 with ⟨-, rfl, rfl, rfl, rfl⟩ | ⟨w, h1, -⟩
    · exact ⟨_, rfl, rfl, fun y => absurd y (by decide), Inv_mk hI⟩
    · cases h1
  · have h3n : 3 ≤ nI b := Int32.not_lt.mp h3
    have h3b : 3 ≤ b := (nI_leI (a := 3) (by decide) (by omega)).mp h3n
    simp only [if_neg h3, if_pos h3n] at h1 ⊢
    rcases h1 with ⟨h1, -⟩ | ⟨w, h1, rfl, rfl⟩
    · cases h1
    · obtain ⟨e1, rfl, rfl, rfl⟩ := inr_mu h1
      cases e1
      refine ⟨_, rfl, rfl, fun _ => ?_, Inv_mk hI⟩
      congr 1
      unfold g_boards
      have hb6 : b = 3 ∨ b = 4 ∨ b = 5 := by omega
      rcases hb6 with rfl | rfl | rfl
      · rw [if_neg (by decide), if_neg (by decide), if_neg (by decide), if_neg (by decide)]
      · rw [if_neg (by decide), if_pos (by decide), if_neg (by decide), if_pos (by decide)]
      · rw [if_pos (by decide), if_pos (by decide)]
theorem tie_clear {T : Nat → Int64} {ck : Nat → Int32} {cn : Int32} {th : Int32} {ks : Nat → Int32} {kc : Int32} {rn : Nat → Int32} {oc : Nat → Int32} {hd : Nat → Int32} {hs : Int32} {se : Nat → Int32} {bd : Nat → Int32} {dk : Nat → Int32} {ct : Int32} {bo : Int32} {wi : Nat → Int32} {sh : Nat → Int32} {lf : Nat → Int32} {lc : Int32} {mo : Int32} {ah : Int32} {b j : Nat} (hI : iv_ok T ck cn ks se bd b dk j ct wi sh) : ∀ (z : Int32) (T1 : Nat → Int64) (dk1 : Nat → Int32) (dn1 : Int32) (v : Option Value) (S1 : mS), ((.inr (some (.int (g_bs T)), vp_updL T (6 : Int32).toNatClampNeg 0, ck, cn)) : mu_R) = .inr (some (.int z), T1, dk1, dn1) → (fun v9 S9 => v9 = some (.int (nI b)) ∧ S9 = (0, ks, kc, rn, oc, hd, hs, se, bd, 0, dk, (nI j), 0, bo, wi, sh, lf, lc, mo, ah)) v S1 → v = some (.int z) ∧ Inv T1 dk1 dn1 S1 := by
  intro z T1 dk1 dn1 v S1 h1 h2
  obtain ⟨rfl, rfl⟩ := h2
  obtain ⟨e1, rfl, rfl, rfl⟩ := inr_mu h1
  refine ⟨?_, Inv_mk (b := 0) (iv_clear hI)⟩
  rw [← e1, iv_bs hI]
theorem tie_draw {T : Nat → Int64} {ck : Nat → Int32} {cn : Int32} {th : Int32} {ks : Nat → Int32} {kc : Int32} {rn : Nat → Int32} {oc : Nat → Int32} {hd : Nat → Int32} {hs : Int32} {se : Nat → Int32} {bd : Nat → Int32} {dk : Nat → Int32} {ct : Int32} {bo : Int32} {wi : Nat → Int32} {sh : Nat → Int32} {lf : Nat → Int32} {lc : Int32} {mo : Int32} {ah : Int32} {b j : Nat} (hI : iv_ok T ck cn ks se bd b dk j ct wi sh) : ∀ (z : Int32) (T1 : Nat → Int64) (dk1 : Nat → Int32) (dn1 : Int32) (v : Option Value) (S1 : mS), ((if cn < 52 then .inr (some (.int (ck cn.toNatClampNeg)), T, ck, cn + 1) else .inr (some (.int (-1)), T, ck, cn)) : mu_R) = .inr (some (.int z), T1, dk1, dn1) → (fun v9 S9 => v9 = some (.int (k_drawV dk j)) ∧ S9 = (0, ks, kc, rn, oc, hd, hs, se, bd, (nI b), dk, (if nI j = 52 then nI j else nI j + 1), ct, bo, wi, sh, lf, lc, mo, ah)) v S1 → v = some (.int z) ∧ Inv T1 dk1 dn1 S1 := by
  intro z T1 dk1 dn1 v S1 h1 h2
  obtain ⟨rfl, rfl⟩ := h2
  have hcn := hI.2.2.1
  have hj := hI.2.1
  have hd9 := hI.2.2.2.2.2.1
  subst hcn
  by_cases h : j = 52
  · subst h
    rw [if_neg (by decide)] at h1
    obtain ⟨e1, rfl, rfl, rfl⟩ := inr_mu h1
    refine ⟨?_, ?_⟩
    · rw [← e1]
      unfold k_drawV
      rw [if_pos (show nI 52 = 52 from rfl)]
    · rw [if_pos (show nI 52 = 52 from rfl)]
      exact Inv_mk hI
  · rw [if_pos (show nI j < 52 from nI_lt (b := 52) (by omega) (by decide))] at h1
    obtain ⟨e1, rfl, rfl, rfl⟩ := inr_mu h1
    have hne : ¬ nI j = 52 := fun y => h ((nI_eq (b := 52) (by omega) (by decide)).mp y)
    refine ⟨?_, ?_⟩
    · rw [← e1]
      unfold k_drawV
      rw [if_neg hne, nI_1, nI_pred, nI_clamp (by omega), hd9 j (by omega)]
    · rw [if_neg hne, nI_1]
      obtain ⟨h1, h2, h3, h4, h5, h6, h7, h8, h9⟩ := hI
      exact Inv_mk ⟨h1, by omega, rfl, h4, h5, h6, h7, h8, h9⟩
theorem tie_shuffle {T : Nat → Int64} {ck : Nat → Int32} {cn : Int32} {th : Int32} {ks : Nat → Int32} {kc : Int32} {rn : Nat → Int32} {oc : Nat → Int32} {hd : Nat → Int32} {hs : Int32} {se : Nat → Int32} {bd : Nat → Int32} {dk : Nat → Int32} {ct : Int32} {bo : Int32} {wi : Nat → Int32} {sh : Nat → Int32} {lf : Nat → Int32} {lc : Int32} {mo : Int32} {ah : Int32} {b j : Nat} (hI : iv_ok T ck cn ks se bd b dk j ct wi sh) (a1 : Int32) : ∀ (v : Option Value) (S1 : mS), (fun v9 S9 => v9 = none ∧ S9 = (0, ks, kc, rn, oc, hd, hs, se, bd, (nI b), (k_shuf a1 dk), 0, ct, bo, wi, sh, lf, lc, mo, ah)) v S1 → v = none ∧ Inv T (g_shuf a1 ck) 0 S1 := by
  intro v S1 h
  obtain ⟨rfl, rfl⟩ := h
  obtain ⟨h1, h2, h3, h4, h5, h6, h7, h8, h9⟩ := hI
  exact ⟨rfl, Inv_mk (j := 0) ⟨h1, by omega, rfl, h4, h5, shuf_ag a1 ck dk, h7, h8, h9⟩⟩
theorem tie_wins_n {T : Nat → Int64} {ck : Nat → Int32} {cn : Int32} {th : Int32} {ks : Nat → Int32} {kc : Int32} {rn : Nat → Int32} {oc : Nat → Int32} {hd : Nat → Int32} {hs : Int32} {se : Nat → Int32} {bd : Nat → Int32} {dk : Nat → Int32} {ct : Int32} {bo : Int32} {wi : Nat → Int32} {sh : Nat → Int32} {lf : Nat → Int32} {lc : Int32} {mo : Int32} {ah : Int32} {b j : Nat} (hI : iv_ok T ck cn ks se bd b dk j ct wi sh) (hb3 : ¬ 3 ≤ nI b) (a1 : Int32) (a2 : Int32) : ∀ (k : Int32) (z : Int64) (T1 : Nat → Int64) (dk1 : Nat → Int32) (dn1 : Int32) (v : Option Value) (S1 : mS), (((px_up T ck cn (if q_seat a1 then .inl ex_IO else if a2 = 0 then .inl ex_IS else if a2 = 1 then .inl ex_IS else .inl ex_IA)) = .inl ex_IO ∧ k = 1 ∧ T1 = T ∧ dk1 = ck ∧ dn1 = cn) ∨ ((px_up T ck cn (if q_seat a1 then .inl ex_IO else if a2 = 0 then .inl ex_IS else if a2 = 1 then .inl ex_IS else .inl ex_IA)) = .inl ex_IA ∧ k = 2 ∧ T1 = T ∧ dk1 = ck ∧ dn1 = cn) ∨ ((px_up T ck cn (if q_seat a1 then .inl ex_IO else if a2 = 0 then .inl ex_IS else if a2 = 1 then .inl ex_IS else .inl ex_IA)) = .inl ex_IS ∧ k = 3 ∧ T1 = T ∧ dk1 = ck ∧ dn1 = cn) ∨ (∃ v : Int32, (px_up T ck cn (if q_seat a1 then .inl ex_IO else if a2 = 0 then .inl ex_IS else if a2 = 1 then .inl ex_IS else .inl ex_IA)) = .inr (some (.int v), T1, dk1, dn1) ∧ k = 0 ∧ z = v.toInt64)) → (fun v9 S9 => v9 = some (.int 0) ∧ S9 = ((if m_noSeat a1 = 0 then (if a2 < 0 then 2 else if a2 ≤ 1 then 3 else 2) else 1), ks, kc, rn, oc, hd, hs, se, bd, (nI b), dk, (nI j), ct, bo, wi, sh, lf, lc, mo, ah)) v S1 → ∃ y : Int32, v = some (.int y) ∧ k = S1.1 ∧ (k = 0 → z = y.toInt64) ∧ Inv T1 dk1 dn1 S1 := by
  intro k z T1 dk1 dn1 v S1 h1 h2
  obtain ⟨rfl, rfl⟩ := h2
  simp only [px_up_ite, px_up_l] at h1
  by_cases hq : q_seat a1
  · have hm : ¬ m_noSeat a1 = 0 := fun y => (seat_iff a1).mp y hq
    simp only [if_pos hq, if_neg hm] at h1 ⊢
    rcases h1 with ⟨-, rfl, rfl, rfl, rfl⟩ | ⟨h1, -⟩ | ⟨h1, -⟩ | ⟨w, h1, -⟩
    · exact ⟨_, rfl, rfl, fun y => absurd y (by decide), Inv_mk hI⟩
    · exact absurd (Sum.inl.inj h1) (by decide +kernel)
    · exact absurd (Sum.inl.inj h1) (by decide +kernel)
    · cases h1
  · have hm := (seat_iff a1).mpr hq
    simp only [if_neg hq, if_pos hm] at h1 ⊢
    by_cases w0 : a2 = 0
    · subst w0
      simp only [if_pos, if_neg (show ¬ (0 : Int32) < 0 by decide), if_pos (show (0 : Int32) ≤ 1 by decide)] at h1 ⊢
      rcases h1 with ⟨h1, -⟩ | ⟨h1, -⟩ | ⟨-, rfl, rfl, rfl, rfl⟩ | ⟨w, h1, -⟩
      · exact absurd (Sum.inl.inj h1) (by decide +kernel)
      · exact absurd (Sum.inl.inj h1) (by decide +kernel)
      · exact ⟨_, rfl, rfl, fun y => absurd y (by decide), Inv_mk hI⟩
      · cases h1
    · simp only [if_neg w0] at h1
      by_cases w1 : a2 = 1
      · subst w1
        simp only [if_pos, if_neg (show ¬ (1 : Int32) < 0 by decide), if_pos (show (1 : Int32) ≤ 1 by decide)] at h1 ⊢
        rcases h1 with ⟨h1, -⟩ | ⟨h1, -⟩ | ⟨-, rfl, rfl, rfl, rfl⟩ | ⟨w, h1, -⟩
        · exact absurd (Sum.inl.inj h1) (by decide +kernel)
        · exact absurd (Sum.inl.inj h1) (by decide +kernel)
        · exact ⟨_, rfl, rfl, fun y => absurd y (by decide), Inv_mk hI⟩
        · cases h1
      · simp only [if_neg w1] at h1
        have ht : (if a2 < 0 then (2 : Int32) else if a2 ≤ 1 then 3 else 2) = 2 := what_2 w0 w1
        rw [ht]
        rcases h1 with ⟨h1, -⟩ | ⟨-, rfl, rfl, rfl, rfl⟩ | ⟨h1, -⟩ | ⟨w, h1, -⟩
        · exact absurd (Sum.inl.inj h1) (by decide +kernel)
        · exact ⟨_, rfl, rfl, fun y => absurd y (by decide), Inv_mk hI⟩
        · exact absurd (Sum.inl.inj h1) (by decide +kernel)
        · cases h1
