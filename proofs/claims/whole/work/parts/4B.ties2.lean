/-! what ties the class's answers and the model's, by the table of keys -/
theorem tie_sets {T : Nat → Int64} {ck : Nat → Int32} {cn : Int32} {th : Int32} {ks : Nat → Int32} {kc : Int32} {rn : Nat → Int32} {oc : Nat → Int32} {hd : Nat → Int32} {hs : Int32} {se : Nat → Int32} {bd : Nat → Int32} {dk : Nat → Int32} {ct : Int32} {bo : Int32} {wi : Nat → Int32} {sh : Nat → Int32} {lf : Nat → Int32} {lc : Int32} {mo : Int32} {ah : Int32} {b j : Nat} (hI : iv_ok T ck cn ks se bd b dk j ct wi sh)  (a1 : Int32) : ∀ (k : Int32) (z : Int64) (T1 : Nat → Int64) (dk1 : Nat → Int32) (dn1 : Int32) (v : Option Value) (S1 : mS), (((px_up T ck cn (if q_val a1 then .inl ex_IA else r_i (l_SETS.getD (f_cat a1).toNatClampNeg 0))) = .inl ex_IA ∧ k = 1 ∧ T1 = T ∧ dk1 = ck ∧ dn1 = cn) ∨ (∃ v : Int32, (px_up T ck cn (if q_val a1 then .inl ex_IA else r_i (l_SETS.getD (f_cat a1).toNatClampNeg 0))) = .inr (some (.int v), T1, dk1, dn1) ∧ k = 0 ∧ z = v.toInt64)) → (fun v9 S9 => v9 = some (.int (if a1 < 0 then 0 else if a1 < 7462 then k_sets (ks a1.toNatClampNeg / 371293) else 0)) ∧ S9 = ((if a1 < 0 then 1 else if a1 < 7462 then 0 else 1), ks, kc, rn, oc, hd, hs, se, bd, (nI b), dk, (nI j), ct, bo, wi, sh, lf, lc, mo, ah)) v S1 → ∃ y : Int32, v = some (.int y) ∧ k = S1.1 ∧ (k = 0 → z = y.toInt64) ∧ Inv T1 dk1 dn1 S1 := by
  intro k z T1 dk1 dn1 v S1 h1 h2
  obtain ⟨rfl, rfl⟩ := h2
  simp only [px_up_ite, px_up_l, px_up_r] at h1
  by_cases hq : q_val a1
  · simp only [if_pos hq] at h1
    have ht : (if a1 < 0 then (1 : Int32) else if a1 < 7462 then 0 else 1) = 1 := by
      by_cases hn : a1 < 0
      · rw [if_pos hn]
      · rw [if_neg hn, if_neg (fun y => hq.elim hn (fun z => z y))]
    rw [ht]
    rcases h1 with ⟨-, rfl, rfl, rfl, rfl⟩ | ⟨w, h1, -⟩
    · exact ⟨_, rfl, rfl, fun y => absurd y (by decide), Inv_mk hI⟩
    · cases h1
  · have hn : ¬ a1 < 0 := fun y => hq (Or.inl y)
    have hl : a1 < 7462 := Classical.not_not.mp (fun y => hq (Or.inr y))
    simp only [if_neg hq, if_neg hn, if_pos hl] at h1 ⊢
    obtain ⟨q, hq2, rfl⟩ := nI_of hn
    have hv : q < 7462 := (nI_ltI (b := 7462) hq2 (by decide)).mp hl
    rcases h1 with ⟨h1, -⟩ | ⟨w, h1, rfl, rfl⟩
    · cases h1
    · obtain ⟨e1, rfl, rfl, rfl⟩ := inr_mu h1
      have e1 := Value.int.inj (Option.some.inj e1)
      refine ⟨_, rfl, rfl, fun _ => ?_, Inv_mk hI⟩
      rw [nI_clamp (show q < 2 ^ 31 by omega), ks_at hI.2.2.2.2.2.2.1 hv, ← e1]
      exact congrArg Int32.toInt64 (sets_n hv)
theorem tie_first {T : Nat → Int64} {ck : Nat → Int32} {cn : Int32} {th : Int32} {ks : Nat → Int32} {kc : Int32} {rn : Nat → Int32} {oc : Nat → Int32} {hd : Nat → Int32} {hs : Int32} {se : Nat → Int32} {bd : Nat → Int32} {dk : Nat → Int32} {ct : Int32} {bo : Int32} {wi : Nat → Int32} {sh : Nat → Int32} {lf : Nat → Int32} {lc : Int32} {mo : Int32} {ah : Int32} {b j : Nat} (hI : iv_ok T ck cn ks se bd b dk j ct wi sh)  (a1 : Int32) : ∀ (k : Int32) (z : Int64) (T1 : Nat → Int64) (dk1 : Nat → Int32) (dn1 : Int32) (v : Option Value) (S1 : mS), (((px_up T ck cn (if a1 < 0 then .inl ex_IA else if a1 ≤ 9 then r_i (fi a1) else .inl ex_IA)) = .inl ex_IA ∧ k = 1 ∧ T1 = T ∧ dk1 = ck ∧ dn1 = cn) ∨ (∃ v : Int32, (px_up T ck cn (if a1 < 0 then .inl ex_IA else if a1 ≤ 9 then r_i (fi a1) else .inl ex_IA)) = .inr (some (.int v), T1, dk1, dn1) ∧ k = 0 ∧ z = v.toInt64)) → (fun v9 S9 => v9 = some (.int (if a1 < 0 then 0 else if a1 ≤ 9 then k_below ks (a1 * 371293) else 0)) ∧ S9 = ((if a1 < 0 then 1 else if a1 ≤ 9 then 0 else 1), ks, kc, rn, oc, hd, hs, se, bd, (nI b), dk, (nI j), ct, bo, wi, sh, lf, lc, mo, ah)) v S1 → ∃ y : Int32, v = some (.int y) ∧ k = S1.1 ∧ (k = 0 → z = y.toInt64) ∧ Inv T1 dk1 dn1 S1 := by
  intro k z T1 dk1 dn1 v S1 h1 h2
  obtain ⟨rfl, rfl⟩ := h2
  simp only [px_up_ite, px_up_l, px_up_r] at h1
  by_cases hn : a1 < 0
  · simp only [if_pos hn] at h1 ⊢
    rcases h1 with ⟨-, rfl, rfl, rfl, rfl⟩ | ⟨w, h1, -⟩
    · exact ⟨_, rfl, rfl, fun y => absurd y (by decide), Inv_mk hI⟩
    · cases h1
  · simp only [if_neg hn] at h1 ⊢
    by_cases h9 : a1 ≤ 9
    · simp only [if_pos h9] at h1 ⊢
      obtain ⟨q, hq, rfl⟩ := nI_of2 (M := 9) (n := 9) rfl hn h9
      rcases h1 with ⟨h1, -⟩ | ⟨w, h1, rfl, rfl⟩
      · cases h1
      · obtain ⟨e1, rfl, rfl, rfl⟩ := inr_mu h1
        have e1 : fi (nI q) = w := by
          have := Option.some.inj e1
          exact Value.int.inj this
        refine ⟨_, rfl, rfl, fun _ => ?_, Inv_mk hI⟩
        rw [first_n hI.2.2.2.2.2.2.1 hq, e1]
    · simp only [if_neg h9] at h1 ⊢
      rcases h1 with ⟨-, rfl, rfl, rfl, rfl⟩ | ⟨w, h1, -⟩
      · exact ⟨_, rfl, rfl, fun y => absurd y (by decide), Inv_mk hI⟩
      · cases h1
