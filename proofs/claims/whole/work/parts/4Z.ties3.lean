/-! what ties the class's answers and the model's: the rest -/
theorem tie_value {T : Nat → Int64} {ck : Nat → Int32} {cn : Int32} {th : Int32} {ks : Nat → Int32} {kc : Int32} {rn : Nat → Int32} {oc : Nat → Int32} {hd : Nat → Int32} {hs : Int32} {se : Nat → Int32} {bd : Nat → Int32} {dk : Nat → Int32} {ct : Int32} {bo : Int32} {wi : Nat → Int32} {sh : Nat → Int32} {lf : Nat → Int32} {lc : Int32} {mo : Int32} {ah : Int32} {b j : Nat} (hI : iv_ok T ck cn ks se bd b dk j ct wi sh)  (a1 : Int64) : ∀ (k : Int32) (z : Int64) (T1 : Nat → Int64) (dk1 : Nat → Int32) (dn1 : Int32) (v : Option Value) (S1 : mS), (((px_up T ck cn (if q_hand a1 then .inl ex_IA else r_i (f_valueOf a1))) = .inl ex_IA ∧ k = 1 ∧ T1 = T ∧ dk1 = ck ∧ dn1 = cn) ∨ (∃ v : Int32, (px_up T ck cn (if q_hand a1 then .inl ex_IA else r_i (f_valueOf a1))) = .inr (some (.int v), T1, dk1, dn1) ∧ k = 0 ∧ z = v.toInt64)) → (fun v9 S9 => v9 = some (.int (if k_isHand a1 = 0 then 0 else k_below ks (k_bk a1))) ∧ ∃ (rn' : Nat → Int32) (oc' : Nat → Int32) (hd' : Nat → Int32) (hs' : Int32), S9 = ((if k_isHand a1 = 0 then 1 else 0), ks, kc, rn', oc', hd', hs', se, bd, (nI b), dk, (nI j), ct, bo, wi, sh, lf, lc, mo, ah)) v S1 → ∃ y : Int32, v = some (.int y) ∧ k = S1.1 ∧ (k = 0 → z = y.toInt64) ∧ Inv T1 dk1 dn1 S1 := by
  intro k z T1 dk1 dn1 v S1 h1 h2
  obtain ⟨rfl, rn', oc', hd', hs', rfl⟩ := h2
  simp only [px_up_ite, px_up_l, px_up_r] at h1
  by_cases hq : q_hand a1
  · have hm := (hand_iff a1).mpr hq
    simp only [if_pos hq, if_pos hm] at h1 ⊢
    rcases h1 with ⟨-, rfl, rfl, rfl, rfl⟩ | ⟨w, h1, -⟩
    · exact ⟨_, rfl, rfl, fun y => absurd y (by decide), Inv_mk hI⟩
    · cases h1
  · have hm : ¬ k_isHand a1 = 0 := fun y => hq ((hand_iff a1).mp y)
    obtain ⟨hx, hp⟩ := hand_of hq
    simp only [if_neg hq, if_neg hm] at h1 ⊢
    rcases h1 with ⟨h1, -⟩ | ⟨w, h1, rfl, rfl⟩
    · cases h1
    · obtain ⟨e1, rfl, rfl, rfl⟩ := inr_mu h1
      have e1 := Value.int.inj (Option.some.inj e1)
      refine ⟨_, rfl, rfl, fun _ => ?_, Inv_mk hI⟩
      rw [← e1, value_V hx hp, bk_V hq, below_kv hI.2.2.2.2.2.2.1 (V_lt hx hp)]
theorem tie_category {T : Nat → Int64} {ck : Nat → Int32} {cn : Int32} {th : Int32} {ks : Nat → Int32} {kc : Int32} {rn : Nat → Int32} {oc : Nat → Int32} {hd : Nat → Int32} {hs : Int32} {se : Nat → Int32} {bd : Nat → Int32} {dk : Nat → Int32} {ct : Int32} {bo : Int32} {wi : Nat → Int32} {sh : Nat → Int32} {lf : Nat → Int32} {lc : Int32} {mo : Int32} {ah : Int32} {b j : Nat} (hI : iv_ok T ck cn ks se bd b dk j ct wi sh)  (a1 : Int64) : ∀ (k : Int32) (z : Int64) (T1 : Nat → Int64) (dk1 : Nat → Int32) (dn1 : Int32) (v : Option Value) (S1 : mS), (((px_up T ck cn (if q_hand a1 then .inl ex_IA else r_i (f_cat (f_valueOf a1)))) = .inl ex_IA ∧ k = 1 ∧ T1 = T ∧ dk1 = ck ∧ dn1 = cn) ∨ (∃ v : Int32, (px_up T ck cn (if q_hand a1 then .inl ex_IA else r_i (f_cat (f_valueOf a1)))) = .inr (some (.int v), T1, dk1, dn1) ∧ k = 0 ∧ z = v.toInt64)) → (fun v9 S9 => v9 = some (.int (if k_isHand a1 = 0 then 0 else k_bk a1 / 371293)) ∧ ∃ (rn' : Nat → Int32) (oc' : Nat → Int32) (hd' : Nat → Int32) (hs' : Int32), S9 = ((if k_isHand a1 = 0 then 1 else 0), ks, kc, rn', oc', hd', hs', se, bd, (nI b), dk, (nI j), ct, bo, wi, sh, lf, lc, mo, ah)) v S1 → ∃ y : Int32, v = some (.int y) ∧ k = S1.1 ∧ (k = 0 → z = y.toInt64) ∧ Inv T1 dk1 dn1 S1 := by
  intro k z T1 dk1 dn1 v S1 h1 h2
  obtain ⟨rfl, rn', oc', hd', hs', rfl⟩ := h2
  simp only [px_up_ite, px_up_l, px_up_r] at h1
  by_cases hq : q_hand a1
  · have hm := (hand_iff a1).mpr hq
    simp only [if_pos hq, if_pos hm] at h1 ⊢
    rcases h1 with ⟨-, rfl, rfl, rfl, rfl⟩ | ⟨w, h1, -⟩
    · exact ⟨_, rfl, rfl, fun y => absurd y (by decide), Inv_mk hI⟩
    · cases h1
  · have hm : ¬ k_isHand a1 = 0 := fun y => hq ((hand_iff a1).mp y)
    obtain ⟨hx, hp⟩ := hand_of hq
    simp only [if_neg hq, if_neg hm] at h1 ⊢
    rcases h1 with ⟨h1, -⟩ | ⟨w, h1, rfl, rfl⟩
    · cases h1
    · obtain ⟨e1, rfl, rfl, rfl⟩ := inr_mu h1
      have e1 := Value.int.inj (Option.some.inj e1)
      refine ⟨_, rfl, rfl, fun _ => ?_, Inv_mk hI⟩
      rw [← e1, value_V hx hp, bk_V hq, cat_n (V_lt hx hp)]
theorem tie_best {T : Nat → Int64} {ck : Nat → Int32} {cn : Int32} {th : Int32} {ks : Nat → Int32} {kc : Int32} {rn : Nat → Int32} {oc : Nat → Int32} {hd : Nat → Int32} {hs : Int32} {se : Nat → Int32} {bd : Nat → Int32} {dk : Nat → Int32} {ct : Int32} {bo : Int32} {wi : Nat → Int32} {sh : Nat → Int32} {lf : Nat → Int32} {lc : Int32} {mo : Int32} {ah : Int32} {b j : Nat} (hI : iv_ok T ck cn ks se bd b dk j ct wi sh)  (a1 : Int64) : ∀ (k : Int32) (z : Int64) (T1 : Nat → Int64) (dk1 : Nat → Int32) (dn1 : Int32) (v : Option Value) (S1 : mS), (((px_up T ck cn (if q_hand a1 then .inl ex_IA else r_l (g_best a1))) = .inl ex_IA ∧ k = 1 ∧ T1 = T ∧ dk1 = ck ∧ dn1 = cn) ∨ (∃ v : Int64, (px_up T ck cn (if q_hand a1 then .inl ex_IA else r_l (g_best a1))) = .inr (some (.long v), T1, dk1, dn1) ∧ k = 0 ∧ z = v)) → (fun v9 S9 => v9 = some (.long (if k_isHand a1 = 0 then 0 else k_bst a1)) ∧ ∃ (rn' : Nat → Int32) (oc' : Nat → Int32) (hd' : Nat → Int32) (hs' : Int32), S9 = ((if k_isHand a1 = 0 then 1 else 0), ks, kc, rn', oc', hd', hs', se, bd, (nI b), dk, (nI j), ct, bo, wi, sh, lf, lc, mo, ah)) v S1 → ∃ y : Int64, v = some (.long y) ∧ k = S1.1 ∧ (k = 0 → z = y) ∧ Inv T1 dk1 dn1 S1 := by
  intro k z T1 dk1 dn1 v S1 h1 h2
  obtain ⟨rfl, rn', oc', hd', hs', rfl⟩ := h2
  simp only [px_up_ite, px_up_l, px_up_r] at h1
  by_cases hq : q_hand a1
  · have hm := (hand_iff a1).mpr hq
    simp only [if_pos hq, if_pos hm] at h1 ⊢
    rcases h1 with ⟨-, rfl, rfl, rfl, rfl⟩ | ⟨w, h1, -⟩
    · exact ⟨_, rfl, rfl, fun y => absurd y (by decide), Inv_mk hI⟩
    · cases h1
  · have hm : ¬ k_isHand a1 = 0 := fun y => hq ((hand_iff a1).mp y)
    obtain ⟨hx, hp⟩ := hand_of hq
    simp only [if_neg hq, if_neg hm] at h1 ⊢
    rcases h1 with ⟨h1, -⟩ | ⟨w, h1, rfl, rfl⟩
    · cases h1
    · obtain ⟨e1, rfl, rfl, rfl⟩ := inr_mu h1
      have e1 := Value.long.inj (Option.some.inj e1)
      refine ⟨_, rfl, rfl, fun _ => ?_, Inv_mk hI⟩
      rw [← e1, best_n hq]
theorem tie_worth {T : Nat → Int64} {ck : Nat → Int32} {cn : Int32} {th : Int32} {ks : Nat → Int32} {kc : Int32} {rn : Nat → Int32} {oc : Nat → Int32} {hd : Nat → Int32} {hs : Int32} {se : Nat → Int32} {bd : Nat → Int32} {dk : Nat → Int32} {ct : Int32} {bo : Int32} {wi : Nat → Int32} {sh : Nat → Int32} {lf : Nat → Int32} {lc : Int32} {mo : Int32} {ah : Int32} {b j : Nat} (hI : iv_ok T ck cn ks se bd b dk j ct wi sh)  (a1 : Int32) : ∀ (k : Int32) (z : Int64) (T1 : Nat → Int64) (dk1 : Nat → Int32) (dn1 : Int32) (v : Option Value) (S1 : mS), (((px_up T ck cn (if q_val a1 then .inl ex_IA else r_i (f_cat a1 + f_rowAt (f_cat a1) (a1 - fi (f_cat a1))))) = .inl ex_IA ∧ k = 1 ∧ T1 = T ∧ dk1 = ck ∧ dn1 = cn) ∨ (∃ v : Int32, (px_up T ck cn (if q_val a1 then .inl ex_IA else r_i (f_cat a1 + f_rowAt (f_cat a1) (a1 - fi (f_cat a1))))) = .inr (some (.int v), T1, dk1, dn1) ∧ k = 0 ∧ z = v.toInt64)) → (fun v9 S9 => v9 = some (.int (if a1 < 0 then 0 else if a1 < 7462 then k_worth (ks a1.toNatClampNeg) else 0)) ∧ S9 = ((if a1 < 0 then 1 else if a1 < 7462 then 0 else 1), ks, kc, rn, oc, hd, hs, se, bd, (nI b), dk, (nI j), ct, bo, wi, sh, lf, lc, mo, ah)) v S1 → ∃ y : Int32, v = some (.int y) ∧ k = S1.1 ∧ (k = 0 → z = y.toInt64) ∧ Inv T1 dk1 dn1 S1 := by
  intro k z T1 dk1 dn1 v S1 h1 h2
  obtain ⟨rfl, rfl⟩ := h2
  simp only [px_up_ite, px_up_l, px_up_r] at h1
  by_cases hq : q_val a1
  · simp only [if_pos hq] at h1
    have ht : (if a1 < 0 then (1 : Int32) else if a1 < 7462 then 0 else 1) = 1 := by
      by_cases hn : a1 < 0
      · rw [if_pos hn]
      · rw [if_neg hn, if_neg (fun y => hq.elim hn (fun z => z y))]
    rw [ht]
    rcases h1 with ⟨-, rfl, rfl, rfl, rfl⟩ | ⟨w, h1, -⟩
    · exact ⟨_, rfl, rfl, fun y => absurd y (by decide), Inv_mk hI⟩
    · cases h1
  · have hn : ¬ a1 < 0 := fun y => hq (Or.inl y)
    have hl : a1 < 7462 := Classical.not_not.mp (fun y => hq (Or.inr y))
    simp only [if_neg hq, if_neg hn, if_pos hl] at h1 ⊢
    obtain ⟨q, hq2, rfl⟩ := nI_of hn
    have hv : q < 7462 := (nI_ltI (b := 7462) hq2 (by decide)).mp hl
    rcases h1 with ⟨h1, -⟩ | ⟨w, h1, rfl, rfl⟩
    · cases h1
    · obtain ⟨e1, rfl, rfl, rfl⟩ := inr_mu h1
      have e1 := Value.int.inj (Option.some.inj e1)
      refine ⟨_, rfl, rfl, fun _ => ?_, Inv_mk hI⟩
      rw [nI_clamp (show q < 2 ^ 31 by omega), ks_at hI.2.2.2.2.2.2.1 hv, ← e1]
      exact congrArg Int32.toInt64 (worth_n hv)
theorem tie_hand {T : Nat → Int64} {ck : Nat → Int32} {cn : Int32} {th : Int32} {ks : Nat → Int32} {kc : Int32} {rn : Nat → Int32} {oc : Nat → Int32} {hd : Nat → Int32} {hs : Int32} {se : Nat → Int32} {bd : Nat → Int32} {dk : Nat → Int32} {ct : Int32} {bo : Int32} {wi : Nat → Int32} {sh : Nat → Int32} {lf : Nat → Int32} {lc : Int32} {mo : Int32} {ah : Int32} {b j : Nat} (hI : iv_ok T ck cn ks se bd b dk j ct wi sh)  (a1 : Int32) : ∀ (k : Int32) (z : Int64) (T1 : Nat → Int64) (dk1 : Nat → Int32) (dn1 : Int32) (v : Option Value) (S1 : mS), (((px_up T ck cn (if q_seat a1 then .inl ex_IO else if T a1.toNatClampNeg = 0 then .inl ex_IS else if g_bs T < 3 then .inl ex_IS else r_i (f_valueOf (T a1.toNatClampNeg ||| T (6 : Int32).toNatClampNeg)))) = .inl ex_IO ∧ k = 1 ∧ T1 = T ∧ dk1 = ck ∧ dn1 = cn) ∨ ((px_up T ck cn (if q_seat a1 then .inl ex_IO else if T a1.toNatClampNeg = 0 then .inl ex_IS else if g_bs T < 3 then .inl ex_IS else r_i (f_valueOf (T a1.toNatClampNeg ||| T (6 : Int32).toNatClampNeg)))) = .inl ex_IS ∧ k = 2 ∧ T1 = T ∧ dk1 = ck ∧ dn1 = cn) ∨ (∃ v : Int32, (px_up T ck cn (if q_seat a1 then .inl ex_IO else if T a1.toNatClampNeg = 0 then .inl ex_IS else if g_bs T < 3 then .inl ex_IS else r_i (f_valueOf (T a1.toNatClampNeg ||| T (6 : Int32).toNatClampNeg)))) = .inr (some (.int v), T1, dk1, dn1) ∧ k = 0 ∧ z = v.toInt64)) → (fun v9 S9 => v9 = some (.int (if m_noSeat a1 = 0 then (if se (2 * a1).toNatClampNeg = -1 then 0 else if 3 ≤ nI b then k_below ks (k_sk se bd b (-1) (-1) a1) else 0) else 0)) ∧ ∃ (rn' : Nat → Int32) (oc' : Nat → Int32) (hd' : Nat → Int32) (hs' : Int32), S9 = ((if m_noSeat a1 = 0 then (if se (2 * a1).toNatClampNeg = -1 then 2 else if 3 ≤ nI b then 0 else 2) else 1), ks, kc, rn', oc', hd', hs', se, bd, (nI b), dk, (nI j), ct, bo, wi, sh, lf, lc, mo, ah)) v S1 → ∃ y : Int32, v = some (.int y) ∧ k = S1.1 ∧ (k = 0 → z = y.toInt64) ∧ Inv T1 dk1 dn1 S1 := by
  intro k z T1 dk1 dn1 v S1 h1 h2
  obtain ⟨rfl, rn', oc', hd', hs', rfl⟩ := h2
  have hb5 := hI.1
  simp only [px_up_ite, px_up_l, px_up_r, iv_bs hI] at h1
  by_cases hq : q_seat a1
  · have hm : ¬ m_noSeat a1 = 0 := fun y => (seat_iff a1).mp y hq
    simp only [if_pos hq, if_neg hm] at h1 ⊢
    rcases h1 with ⟨-, rfl, rfl, rfl, rfl⟩ | ⟨h1, -⟩ | ⟨w, h1, -⟩
    · exact ⟨_, rfl, rfl, fun y => absurd y (by decide), Inv_mk hI⟩
    · exact absurd (Sum.inl.inj h1) (by decide +kernel)
    · cases h1
  · have hm := (seat_iff a1).mpr hq
    obtain ⟨q, hq6, rfl⟩ := seat_of hq
    simp only [if_neg hq, if_pos hm, nI_clamp (show q < 2 ^ 31 by omega), c2 hq6] at h1 ⊢
    by_cases h0 : T q = 0
    · have hse := (iv_T0 hI hq6).mp h0
      simp only [if_pos h0, if_pos hse] at h1 ⊢
      rcases h1 with ⟨h1, -⟩ | ⟨-, rfl, rfl, rfl, rfl⟩ | ⟨w, h1, -⟩
      · exact absurd (Sum.inl.inj h1) (by decide +kernel)
      · exact ⟨_, rfl, rfl, fun y => absurd y (by decide), Inv_mk hI⟩
      · cases h1
    · have hse : ¬ se (2 * q) = -1 := fun y => h0 ((iv_T0 hI hq6).mpr y)
      simp only [if_neg h0, if_neg hse] at h1 ⊢
      by_cases h3 : nI b < 3
      · have h3n : ¬ 3 ≤ nI b := Int32.not_le.mpr h3
        simp only [if_pos h3, if_neg h3n] at h1 ⊢
        rcases h1 with ⟨h1, -⟩ | ⟨-, rfl, rfl, rfl, rfl⟩ | ⟨w, h1, -⟩
        · exact absurd (Sum.inl.inj h1) (by decide +kernel)
        · exact ⟨_, rfl, rfl, fun y => absurd y (by decide), Inv_mk hI⟩
        · cases h1
      · have h3n : 3 ≤ nI b := Int32.not_lt.mp h3
        have h3b : 3 ≤ b := (nI_leI (a := 3) (by decide) (by omega)).mp h3n
        simp only [if_neg h3, if_pos h3n] at h1 ⊢
        rcases h1 with ⟨h1, -⟩ | ⟨h1, -⟩ | ⟨w, h1, rfl, rfl⟩
        · cases h1
        · cases h1
        · obtain ⟨e1, rfl, rfl, rfl⟩ := inr_mu h1
          have e1 := Value.int.inj (Option.some.inj e1)
          obtain ⟨v, hv, v1, v2⟩ := seat_V hI (mayE_0 h3b hb5) mem_60 hq6 hse
          have v2 : k_sk se bd b (-1) (-1) (nI q) = nI (kv v) := v2
          refine ⟨_, rfl, rfl, fun _ => ?_, Inv_mk hI⟩
          rw [← e1, v2, below_kv hI.2.2.2.2.2.2.1 hv, show (6 : Int32).toNatClampNeg = 6 from rfl, v1]
theorem tie_ahead {T : Nat → Int64} {ck : Nat → Int32} {cn : Int32} {th : Int32} {ks : Nat → Int32} {kc : Int32} {rn : Nat → Int32} {oc : Nat → Int32} {hd : Nat → Int32} {hs : Int32} {se : Nat → Int32} {bd : Nat → Int32} {dk : Nat → Int32} {ct : Int32} {bo : Int32} {wi : Nat → Int32} {sh : Nat → Int32} {lf : Nat → Int32} {lc : Int32} {mo : Int32} {ah : Int32} {b j : Nat} (hI : iv_ok T ck cn ks se bd b dk j ct wi sh)   : ∀ (k : Int32) (z : Int64) (T1 : Nat → Int64) (dk1 : Nat → Int32) (dn1 : Int32) (v : Option Value) (S1 : mS), (((px_up T ck cn (if g_bs T < 3 then .inl ex_IS else if g_lead T (T (6 : Int32).toNatClampNeg) = 0 then .inl ex_IS else r_i (g_lead T (T (6 : Int32).toNatClampNeg)))) = .inl ex_IS ∧ k = 1 ∧ T1 = T ∧ dk1 = ck ∧ dn1 = cn) ∨ (∃ v : Int32, (px_up T ck cn (if g_bs T < 3 then .inl ex_IS else if g_lead T (T (6 : Int32).toNatClampNeg) = 0 then .inl ex_IS else r_i (g_lead T (T (6 : Int32).toNatClampNeg)))) = .inr (some (.int v), T1, dk1, dn1) ∧ k = 0 ∧ z = v.toInt64)) → (fun v9 S9 => v9 = some (.int (if k_empty se = 0 then (if 3 ≤ nI b then k_lead se bd b (-1) (-1) else 0) else 0)) ∧ ∃ (rn' : Nat → Int32) (oc' : Nat → Int32) (hd' : Nat → Int32) (hs' : Int32) (mo' : Int32) (ah' : Int32), S9 = ((if k_empty se = 0 then (if 3 ≤ nI b then 0 else 1) else 1), ks, kc, rn', oc', hd', hs', se, bd, (nI b), dk, (nI j), ct, bo, wi, sh, lf, lc, mo', ah')) v S1 → ∃ y : Int32, v = some (.int y) ∧ k = S1.1 ∧ (k = 0 → z = y.toInt64) ∧ Inv T1 dk1 dn1 S1 := by
  intro k z T1 dk1 dn1 v S1 h1 h2
  obtain ⟨rfl, rn', oc', hd', hs', mo', ah', rfl⟩ := h2
  have hb5 := hI.1
  simp only [px_up_ite, px_up_l, px_up_r, iv_bs hI, show (6 : Int32).toNatClampNeg = 6 from rfl] at h1
  by_cases h3 : nI b < 3
  · have h3n : ¬ 3 ≤ nI b := Int32.not_le.mpr h3
    have ht : (if k_empty se = 0 then (if 3 ≤ nI b then (0 : Int32) else 1) else 1) = 1 := by
      rw [if_neg h3n]
      split <;> rfl
    rw [ht]
    simp only [if_pos h3] at h1
    rcases h1 with ⟨-, rfl, rfl, rfl, rfl⟩ | ⟨w, h1, -⟩
    · exact ⟨_, rfl, rfl, fun y => absurd y (by decide), Inv_mk hI⟩
    · cases h1
  · have h3n : 3 ≤ nI b := Int32.not_lt.mp h3
    have h3b : 3 ≤ b := (nI_leI (a := 3) (by decide) (by omega)).mp h3n
    have hl0 := lead_0 hI (mayE_0 h3b hb5) mem_60
    have hln := lead_n hI (mayE_0 h3b hb5) mem_60
    have hln : g_lead T (T 6) = k_lead se bd b (-1) (-1) := hln
    simp only [if_neg h3, if_pos h3n] at h1 ⊢
    by_cases hl : g_lead T (T 6) = 0
    · simp only [if_pos hl, if_neg (hl0.mp hl)] at h1 ⊢
      rcases h1 with ⟨-, rfl, rfl, rfl, rfl⟩ | ⟨w, h1, -⟩
      · exact ⟨_, rfl, rfl, fun y => absurd y (by decide), Inv_mk hI⟩
      · cases h1
    · have he : k_empty se = 0 := Classical.not_not.mp (fun y => hl (hl0.mpr y))
      simp only [if_neg hl, if_pos he] at h1 ⊢
      rcases h1 with ⟨h1, -⟩ | ⟨w, h1, rfl, rfl⟩
      · cases h1
      · obtain ⟨e1, rfl, rfl, rfl⟩ := inr_mu h1
        have e1 := Value.int.inj (Option.some.inj e1)
        refine ⟨_, rfl, rfl, fun _ => ?_, Inv_mk hI⟩
        rw [← e1, hln]
theorem tie_outs {T : Nat → Int64} {ck : Nat → Int32} {cn : Int32} {th : Int32} {ks : Nat → Int32} {kc : Int32} {rn : Nat → Int32} {oc : Nat → Int32} {hd : Nat → Int32} {hs : Int32} {se : Nat → Int32} {bd : Nat → Int32} {dk : Nat → Int32} {ct : Int32} {bo : Int32} {wi : Nat → Int32} {sh : Nat → Int32} {lf : Nat → Int32} {lc : Int32} {mo : Int32} {ah : Int32} {b j : Nat} (hI : iv_ok T ck cn ks se bd b dk j ct wi sh)  (a1 : Int32) : ∀ (k : Int32) (z : Int64) (T1 : Nat → Int64) (dk1 : Nat → Int32) (dn1 : Int32) (v : Option Value) (S1 : mS), (((px_up T ck cn (if q_seat a1 then .inl ex_IO else if T a1.toNatClampNeg = 0 then .inl ex_IS else if g_bs T < 3 then .inl ex_IS else if 5 - g_bs T = 0 then .inl ex_IS else r_l (g_outs T a1))) = .inl ex_IO ∧ k = 1 ∧ T1 = T ∧ dk1 = ck ∧ dn1 = cn) ∨ ((px_up T ck cn (if q_seat a1 then .inl ex_IO else if T a1.toNatClampNeg = 0 then .inl ex_IS else if g_bs T < 3 then .inl ex_IS else if 5 - g_bs T = 0 then .inl ex_IS else r_l (g_outs T a1))) = .inl ex_IS ∧ k = 2 ∧ T1 = T ∧ dk1 = ck ∧ dn1 = cn) ∨ (∃ v : Int64, (px_up T ck cn (if q_seat a1 then .inl ex_IO else if T a1.toNatClampNeg = 0 then .inl ex_IS else if g_bs T < 3 then .inl ex_IS else if 5 - g_bs T = 0 then .inl ex_IS else r_l (g_outs T a1))) = .inr (some (.long v), T1, dk1, dn1) ∧ k = 0 ∧ z = v)) → (fun v9 S9 => v9 = some (.long (if m_noSeat a1 = 0 then (if se (2 * a1).toNatClampNeg = -1 then 0 else if nI b < 3 then 0 else if nI b ≤ 4 then k_outs se bd b a1 else 0) else 0)) ∧ ∃ (rn' : Nat → Int32) (oc' : Nat → Int32) (hd' : Nat → Int32) (hs' : Int32) (mo' : Int32) (ah' : Int32), S9 = ((if m_noSeat a1 = 0 then (if se (2 * a1).toNatClampNeg = -1 then 2 else if nI b < 3 then 2 else if nI b ≤ 4 then 0 else 2) else 1), ks, kc, rn', oc', hd', hs', se, bd, (nI b), dk, (nI j), ct, bo, wi, sh, lf, lc, mo', ah')) v S1 → ∃ y : Int64, v = some (.long y) ∧ k = S1.1 ∧ (k = 0 → z = y) ∧ Inv T1 dk1 dn1 S1 := by
  intro k z T1 dk1 dn1 v S1 h1 h2
  obtain ⟨rfl, rn', oc', hd', hs', mo', ah', rfl⟩ := h2
  have hb5 := hI.1
  simp only [px_up_ite, px_up_l, px_up_r, iv_bs hI] at h1
  by_cases hq : q_seat a1
  · have hm : ¬ m_noSeat a1 = 0 := fun y => (seat_iff a1).mp y hq
    simp only [if_pos hq, if_neg hm] at h1 ⊢
    rcases h1 with ⟨-, rfl, rfl, rfl, rfl⟩ | ⟨h1, -⟩ | ⟨w, h1, -⟩
    · exact ⟨_, rfl, rfl, fun y => absurd y (by decide), Inv_mk hI⟩
    · exact absurd (Sum.inl.inj h1) (by decide +kernel)
    · cases h1
  · have hm := (seat_iff a1).mpr hq
    obtain ⟨q, hq6, rfl⟩ := seat_of hq
    simp only [if_neg hq, if_pos hm, nI_clamp (show q < 2 ^ 31 by omega), c2 hq6] at h1 ⊢
    by_cases h0 : T q = 0
    · have hse := (iv_T0 hI hq6).mp h0
      simp only [if_pos h0, if_pos hse] at h1 ⊢
      rcases h1 with ⟨h1, -⟩ | ⟨-, rfl, rfl, rfl, rfl⟩ | ⟨w, h1, -⟩
      · exact absurd (Sum.inl.inj h1) (by decide +kernel)
      · exact ⟨_, rfl, rfl, fun y => absurd y (by decide), Inv_mk hI⟩
      · cases h1
    · have hse : ¬ se (2 * q) = -1 := fun y => h0 ((iv_T0 hI hq6).mpr y)
      simp only [if_neg h0, if_neg hse] at h1 ⊢
      by_cases h3 : nI b < 3
      · simp only [if_pos h3] at h1 ⊢
        rcases h1 with ⟨h1, -⟩ | ⟨-, rfl, rfl, rfl, rfl⟩ | ⟨w, h1, -⟩
        · exact absurd (Sum.inl.inj h1) (by decide +kernel)
        · exact ⟨_, rfl, rfl, fun y => absurd y (by decide), Inv_mk hI⟩
        · cases h1
      · have h3b : 3 ≤ b := (nI_leI (a := 3) (by decide) (by omega)).mp (Int32.not_lt.mp h3)
        simp only [if_neg h3] at h1 ⊢
        by_cases h5 : b = 5
        · have e5 : 5 - nI b = 0 := by rw [h5]; decide
          have n4 : ¬ nI b ≤ 4 := by rw [h5]; decide
          simp only [if_pos e5, if_neg n4] at h1 ⊢
          rcases h1 with ⟨h1, -⟩ | ⟨-, rfl, rfl, rfl, rfl⟩ | ⟨w, h1, -⟩
          · exact absurd (Sum.inl.inj h1) (by decide +kernel)
          · exact ⟨_, rfl, rfl, fun y => absurd y (by decide), Inv_mk hI⟩
          · cases h1
        · have e5 : ¬ 5 - nI b = 0 := by
            rw [show 5 - nI b = nI (5 - b) from pk_sub (a := 5) (by omega)]
            exact nI_ne0 (by omega) (by omega)
          have n4 : nI b ≤ 4 := nI_le (b := 4) (by omega) (by decide)
          simp only [if_neg e5, if_pos n4] at h1 ⊢
          rcases h1 with ⟨h1, -⟩ | ⟨h1, -⟩ | ⟨w, h1, rfl, rfl⟩
          · cases h1
          · cases h1
          · obtain ⟨e1, rfl, rfl, rfl⟩ := inr_mu h1
            have e1 := Value.long.inj (Option.some.inj e1)
            refine ⟨_, rfl, rfl, fun _ => ?_, Inv_mk hI⟩
            rw [← e1, outs_n hI h3b (by omega)]
theorem tie_share {T : Nat → Int64} {ck : Nat → Int32} {cn : Int32} {th : Int32} {ks : Nat → Int32} {kc : Int32} {rn : Nat → Int32} {oc : Nat → Int32} {hd : Nat → Int32} {hs : Int32} {se : Nat → Int32} {bd : Nat → Int32} {dk : Nat → Int32} {ct : Int32} {bo : Int32} {wi : Nat → Int32} {sh : Nat → Int32} {lf : Nat → Int32} {lc : Int32} {mo : Int32} {ah : Int32} {b j : Nat} (hI : iv_ok T ck cn ks se bd b dk j ct wi sh)  (a1 : Int32) (a2 : Int32) : ∀ (k : Int32) (z : Int64) (T1 : Nat → Int64) (dk1 : Nat → Int32) (dn1 : Int32) (v : Option Value) (S1 : mS), (((px_up T ck cn (if q_seat a1 then .inl ex_IO else if 0 ≤ a2 then (if T a1.toNatClampNeg = 0 then .inl ex_IS else if 5 - g_bs T = 0 then r_i (g_share (g_lead T (T (6 : Int32).toNatClampNeg)) a1 a2) else .inl ex_IS) else .inl ex_IA)) = .inl ex_IO ∧ k = 1 ∧ T1 = T ∧ dk1 = ck ∧ dn1 = cn) ∨ ((px_up T ck cn (if q_seat a1 then .inl ex_IO else if 0 ≤ a2 then (if T a1.toNatClampNeg = 0 then .inl ex_IS else if 5 - g_bs T = 0 then r_i (g_share (g_lead T (T (6 : Int32).toNatClampNeg)) a1 a2) else .inl ex_IS) else .inl ex_IA)) = .inl ex_IA ∧ k = 2 ∧ T1 = T ∧ dk1 = ck ∧ dn1 = cn) ∨ ((px_up T ck cn (if q_seat a1 then .inl ex_IO else if 0 ≤ a2 then (if T a1.toNatClampNeg = 0 then .inl ex_IS else if 5 - g_bs T = 0 then r_i (g_share (g_lead T (T (6 : Int32).toNatClampNeg)) a1 a2) else .inl ex_IS) else .inl ex_IA)) = .inl ex_IS ∧ k = 3 ∧ T1 = T ∧ dk1 = ck ∧ dn1 = cn) ∨ (∃ v : Int32, (px_up T ck cn (if q_seat a1 then .inl ex_IO else if 0 ≤ a2 then (if T a1.toNatClampNeg = 0 then .inl ex_IS else if 5 - g_bs T = 0 then r_i (g_share (g_lead T (T (6 : Int32).toNatClampNeg)) a1 a2) else .inl ex_IS) else .inl ex_IA)) = .inr (some (.int v), T1, dk1, dn1) ∧ k = 0 ∧ z = v.toInt64)) → (fun v9 S9 => v9 = some (.int (if m_noSeat a1 = 0 then (if 0 ≤ a2 then (if se (2 * a1).toNatClampNeg = -1 then 0 else if 5 ≤ nI b then k_shareV (k_lead se bd b (-1) (-1)) a1 a2 else 0) else 0) else 0)) ∧ ∃ (rn' : Nat → Int32) (oc' : Nat → Int32) (hd' : Nat → Int32) (hs' : Int32) (mo' : Int32) (ah' : Int32), S9 = ((if m_noSeat a1 = 0 then (if 0 ≤ a2 then (if se (2 * a1).toNatClampNeg = -1 then 3 else if 5 ≤ nI b then 0 else 3) else 2) else 1), ks, kc, rn', oc', hd', hs', se, bd, (nI b), dk, (nI j), ct, bo, wi, sh, lf, lc, mo', ah')) v S1 → ∃ y : Int32, v = some (.int y) ∧ k = S1.1 ∧ (k = 0 → z = y.toInt64) ∧ Inv T1 dk1 dn1 S1 := by
  intro k z T1 dk1 dn1 v S1 h1 h2
  obtain ⟨rfl, rn', oc', hd', hs', mo', ah', rfl⟩ := h2
  have hb5 := hI.1
  simp only [px_up_ite, px_up_l, px_up_r, iv_bs hI, show (6 : Int32).toNatClampNeg = 6 from rfl] at h1
  by_cases hq : q_seat a1
  · have hm : ¬ m_noSeat a1 = 0 := fun y => (seat_iff a1).mp y hq
    simp only [if_pos hq, if_neg hm] at h1 ⊢
    rcases h1 with ⟨-, rfl, rfl, rfl, rfl⟩ | ⟨h1, -⟩ | ⟨h1, -⟩ | ⟨w, h1, -⟩
    · exact ⟨_, rfl, rfl, fun y => absurd y (by decide), Inv_mk hI⟩
    · exact absurd (Sum.inl.inj h1) (by decide +kernel)
    · exact absurd (Sum.inl.inj h1) (by decide +kernel)
    · cases h1
  · have hm := (seat_iff a1).mpr hq
    obtain ⟨q, hq6, rfl⟩ := seat_of hq
    simp only [if_neg hq, if_pos hm, nI_clamp (show q < 2 ^ 31 by omega), c2 hq6] at h1 ⊢
    by_cases ha : 0 ≤ a2
    · simp only [if_pos ha] at h1 ⊢
      by_cases h0 : T q = 0
      · have hse := (iv_T0 hI hq6).mp h0
        simp only [if_pos h0, if_pos hse] at h1 ⊢
        rcases h1 with ⟨h1, -⟩ | ⟨h1, -⟩ | ⟨-, rfl, rfl, rfl, rfl⟩ | ⟨w, h1, -⟩
        · exact absurd (Sum.inl.inj h1) (by decide +kernel)
        · exact absurd (Sum.inl.inj h1) (by decide +kernel)
        · exact ⟨_, rfl, rfl, fun y => absurd y (by decide), Inv_mk hI⟩
        · cases h1
      · have hse : ¬ se (2 * q) = -1 := fun y => h0 ((iv_T0 hI hq6).mpr y)
        simp only [if_neg h0, if_neg hse] at h1 ⊢
        by_cases h5 : b = 5
        · have e5 : 5 - nI b = 0 := by rw [h5]; decide
          have n5 : 5 ≤ nI b := by rw [h5]; decide
          simp only [if_pos e5, if_pos n5] at h1 ⊢
          rcases h1 with ⟨h1, -⟩ | ⟨h1, -⟩ | ⟨h1, -⟩ | ⟨w, h1, rfl, rfl⟩
          · cases h1
          · cases h1
          · cases h1
          · obtain ⟨e1, rfl, rfl, rfl⟩ := inr_mu h1
            have e1 := Value.int.inj (Option.some.inj e1)
            have hln := lead_n hI (mayE_0 (by omega) hb5) mem_60
            have hln : g_lead T (T 6) = k_lead se bd b (-1) (-1) := hln
            obtain ⟨X, hX, eX⟩ := lead_64 T (T 6)
            refine ⟨_, rfl, rfl, fun _ => ?_, Inv_mk hI⟩
            rw [← e1, ← hln, eX, share_n hX hq6]
        · have e5 : ¬ 5 - nI b = 0 := by
            rw [show 5 - nI b = nI (5 - b) from pk_sub (a := 5) (by omega)]
            exact nI_ne0 (by omega) (by omega)
          have n5 : ¬ 5 ≤ nI b := fun y => h5 (by have := (nI_leI (a := 5) (by decide) (by omega)).mp y; omega)
          simp only [if_neg e5, if_neg n5] at h1 ⊢
          rcases h1 with ⟨h1, -⟩ | ⟨h1, -⟩ | ⟨-, rfl, rfl, rfl, rfl⟩ | ⟨w, h1, -⟩
          · exact absurd (Sum.inl.inj h1) (by decide +kernel)
          · exact absurd (Sum.inl.inj h1) (by decide +kernel)
          · exact ⟨_, rfl, rfl, fun y => absurd y (by decide), Inv_mk hI⟩
          · cases h1
    · simp only [if_neg ha] at h1 ⊢
      rcases h1 with ⟨h1, -⟩ | ⟨-, rfl, rfl, rfl, rfl⟩ | ⟨h1, -⟩ | ⟨w, h1, -⟩
      · exact absurd (Sum.inl.inj h1) (by decide +kernel)
      · exact ⟨_, rfl, rfl, fun y => absurd y (by decide), Inv_mk hI⟩
      · exact absurd (Sum.inl.inj h1) (by decide +kernel)
      · cases h1
theorem tie_wins_30 {T : Nat → Int64} {ck : Nat → Int32} {cn : Int32} {th : Int32} {ks : Nat → Int32} {kc : Int32} {rn : Nat → Int32} {oc : Nat → Int32} {hd : Nat → Int32} {hs : Int32} {se : Nat → Int32} {bd : Nat → Int32} {dk : Nat → Int32} {ct : Int32} {bo : Int32} {wi : Nat → Int32} {sh : Nat → Int32} {lf : Nat → Int32} {lc : Int32} {mo : Int32} {ah : Int32} {b j : Nat} (hI : iv_ok T ck cn ks se bd 3 dk j 0 wi sh)  (a1 : Int32) (a2 : Int32) : ∀ (k : Int32) (z : Int64) (T1 : Nat → Int64) (dk1 : Nat → Int32) (dn1 : Int32) (v : Option Value) (S1 : mS), (((px_up T ck cn (if q_seat a1 then .inl ex_IO else if a2 = 0 then (if T a1.toNatClampNeg = 0 then .inl ex_IS else if g_bs T < 3 then .inl ex_IS else r_i (g_cb T a1 0 2 (T (6 : Int32).toNatClampNeg) (g_free T))) else if a2 = 1 then (if T a1.toNatClampNeg = 0 then .inl ex_IS else if g_bs T < 3 then .inl ex_IS else r_i (g_cb T a1 1 2 (T (6 : Int32).toNatClampNeg) (g_free T))) else .inl ex_IA)) = .inl ex_IO ∧ k = 1 ∧ T1 = T ∧ dk1 = ck ∧ dn1 = cn) ∨ ((px_up T ck cn (if q_seat a1 then .inl ex_IO else if a2 = 0 then (if T a1.toNatClampNeg = 0 then .inl ex_IS else if g_bs T < 3 then .inl ex_IS else r_i (g_cb T a1 0 2 (T (6 : Int32).toNatClampNeg) (g_free T))) else if a2 = 1 then (if T a1.toNatClampNeg = 0 then .inl ex_IS else if g_bs T < 3 then .inl ex_IS else r_i (g_cb T a1 1 2 (T (6 : Int32).toNatClampNeg) (g_free T))) else .inl ex_IA)) = .inl ex_IA ∧ k = 2 ∧ T1 = T ∧ dk1 = ck ∧ dn1 = cn) ∨ ((px_up T ck cn (if q_seat a1 then .inl ex_IO else if a2 = 0 then (if T a1.toNatClampNeg = 0 then .inl ex_IS else if g_bs T < 3 then .inl ex_IS else r_i (g_cb T a1 0 2 (T (6 : Int32).toNatClampNeg) (g_free T))) else if a2 = 1 then (if T a1.toNatClampNeg = 0 then .inl ex_IS else if g_bs T < 3 then .inl ex_IS else r_i (g_cb T a1 1 2 (T (6 : Int32).toNatClampNeg) (g_free T))) else .inl ex_IA)) = .inl ex_IS ∧ k = 3 ∧ T1 = T ∧ dk1 = ck ∧ dn1 = cn) ∨ (∃ v : Int32, (px_up T ck cn (if q_seat a1 then .inl ex_IO else if a2 = 0 then (if T a1.toNatClampNeg = 0 then .inl ex_IS else if g_bs T < 3 then .inl ex_IS else r_i (g_cb T a1 0 2 (T (6 : Int32).toNatClampNeg) (g_free T))) else if a2 = 1 then (if T a1.toNatClampNeg = 0 then .inl ex_IS else if g_bs T < 3 then .inl ex_IS else r_i (g_cb T a1 1 2 (T (6 : Int32).toNatClampNeg) (g_free T))) else .inl ex_IA)) = .inr (some (.int v), T1, dk1, dn1) ∧ k = 0 ∧ z = v.toInt64)) → (fun v9 S9 => v9 = some (.int (if m_noSeat a1 = 0 then (if a2 < 0 then 0 else if a2 ≤ 1 then (if se (2 * a1).toNatClampNeg = -1 then 0 else (if a2 = 0 then (k_all se bd 3 lf wi sh).1 a1.toNatClampNeg else (k_all se bd 3 lf wi sh).2 a1.toNatClampNeg)) else 0) else 0)) ∧ ∃ (rn' : Nat → Int32) (oc' : Nat → Int32) (hd' : Nat → Int32) (hs' : Int32) (mo' : Int32) (ah' : Int32) (bo' : Int32) (lf' : Nat → Int32) (lc' : Int32), S9 = ((if m_noSeat a1 = 0 then (if a2 < 0 then 2 else if a2 ≤ 1 then (if se (2 * a1).toNatClampNeg = -1 then 3 else 0) else 2) else 1), ks, kc, rn', oc', hd', hs', se, bd, (nI 3), dk, (nI j), (if (if m_noSeat a1 = 0 then (if a2 < 0 then 2 else if a2 ≤ 1 then (if se (2 * a1).toNatClampNeg = -1 then 3 else 0) else 2) else 1) = 0 then 1 else 0), bo', (if (if m_noSeat a1 = 0 then (if a2 < 0 then 2 else if a2 ≤ 1 then (if se (2 * a1).toNatClampNeg = -1 then 3 else 0) else 2) else 1) = 0 then (k_all se bd 3 lf wi sh).1 else wi), (if (if m_noSeat a1 = 0 then (if a2 < 0 then 2 else if a2 ≤ 1 then (if se (2 * a1).toNatClampNeg = -1 then 3 else 0) else 2) else 1) = 0 then (k_all se bd 3 lf wi sh).2 else sh), lf', lc', mo', ah')) v S1 → ∃ y : Int32, v = some (.int y) ∧ k = S1.1 ∧ (k = 0 → z = y.toInt64) ∧ Inv T1 dk1 dn1 S1 := by
  intro k z T1 dk1 dn1 v S1 h1 h2
  obtain ⟨rfl, rn', oc', hd', hs', mo', ah', bo', lf', lc', rfl⟩ := h2
  simp only [px_up_ite, px_up_l, px_up_r, iv_bs hI, show (6 : Int32).toNatClampNeg = 6 from rfl, if_neg (show ¬ nI 3 < 3 by decide)] at h1
  by_cases hq : q_seat a1
  · have hm : ¬ m_noSeat a1 = 0 := fun y => (seat_iff a1).mp y hq
    simp only [if_pos hq, if_neg hm, if_neg (show ¬ (3 : Int32) = 0 by decide), if_neg (show ¬ (2 : Int32) = 0 by decide), if_neg (show ¬ (1 : Int32) = 0 by decide)] at h1 ⊢
    rcases h1 with ⟨-, rfl, rfl, rfl, rfl⟩ | ⟨h1, -⟩ | ⟨h1, -⟩ | ⟨w, h1, -⟩
    · exact ⟨_, rfl, rfl, fun y => absurd y (by decide), Inv_mk hI⟩
    · exact absurd (Sum.inl.inj h1) (by decide +kernel)
    · exact absurd (Sum.inl.inj h1) (by decide +kernel)
    · cases h1
  · have hm := (seat_iff a1).mpr hq
    obtain ⟨q, hq6, rfl⟩ := seat_of hq
    simp only [if_neg hq, if_pos hm, nI_clamp (show q < 2 ^ 31 by omega), c2 hq6] at h1 ⊢
    by_cases w0 : a2 = 0
    · subst w0
      simp only [if_pos, if_neg (show ¬ (0 : Int32) < 0 by decide), if_pos (show (0 : Int32) ≤ 1 by decide)] at h1 ⊢
      by_cases h0 : T q = 0
      · have hse := (iv_T0 hI hq6).mp h0
        simp only [if_pos h0, if_pos hse, if_neg (show ¬ (3 : Int32) = 0 by decide), if_neg (show ¬ (2 : Int32) = 0 by decide), if_neg (show ¬ (1 : Int32) = 0 by decide)] at h1 ⊢
        rcases h1 with ⟨h1, -⟩ | ⟨h1, -⟩ | ⟨-, rfl, rfl, rfl, rfl⟩ | ⟨w, h1, -⟩
        · exact absurd (Sum.inl.inj h1) (by decide +kernel)
        · exact absurd (Sum.inl.inj h1) (by decide +kernel)
        · exact ⟨_, rfl, rfl, fun y => absurd y (by decide), Inv_mk hI⟩
        · cases h1
      · have hse : ¬ se (2 * q) = -1 := fun y => h0 ((iv_T0 hI hq6).mpr y)
        simp only [if_neg h0, if_neg hse, if_pos] at h1 ⊢
        rcases h1 with ⟨h1, -⟩ | ⟨h1, -⟩ | ⟨h1, -⟩ | ⟨w, h1, rfl, rfl⟩
        · cases h1
        · cases h1
        · cases h1
        · obtain ⟨e1, rfl, rfl, rfl⟩ := inr_mu h1
          have e1 := Value.int.inj (Option.some.inj e1)
          refine ⟨_, rfl, rfl, fun _ => ?_, Inv_mk (iv_new hI lf wi sh)⟩
          rw [← e1, ← (all_3 hI hq6 lf wi sh).1]
    · simp only [if_neg w0] at h1 ⊢
      by_cases w1 : a2 = 1
      · subst w1
        simp only [if_pos, if_neg (show ¬ (1 : Int32) < 0 by decide), if_pos (show (1 : Int32) ≤ 1 by decide)] at h1 ⊢
        by_cases h0 : T q = 0
        · have hse := (iv_T0 hI hq6).mp h0
          simp only [if_pos h0, if_pos hse, if_neg (show ¬ (3 : Int32) = 0 by decide), if_neg (show ¬ (2 : Int32) = 0 by decide), if_neg (show ¬ (1 : Int32) = 0 by decide)] at h1 ⊢
          rcases h1 with ⟨h1, -⟩ | ⟨h1, -⟩ | ⟨-, rfl, rfl, rfl, rfl⟩ | ⟨w, h1, -⟩
          · exact absurd (Sum.inl.inj h1) (by decide +kernel)
          · exact absurd (Sum.inl.inj h1) (by decide +kernel)
          · exact ⟨_, rfl, rfl, fun y => absurd y (by decide), Inv_mk hI⟩
          · cases h1
        · have hse : ¬ se (2 * q) = -1 := fun y => h0 ((iv_T0 hI hq6).mpr y)
          simp only [if_neg h0, if_neg hse, if_pos] at h1 ⊢
          rcases h1 with ⟨h1, -⟩ | ⟨h1, -⟩ | ⟨h1, -⟩ | ⟨w, h1, rfl, rfl⟩
          · cases h1
          · cases h1
          · cases h1
          · obtain ⟨e1, rfl, rfl, rfl⟩ := inr_mu h1
            have e1 := Value.int.inj (Option.some.inj e1)
            refine ⟨_, rfl, rfl, fun _ => ?_, Inv_mk (iv_new hI lf wi sh)⟩
            rw [← e1, ← (all_3 hI hq6 lf wi sh).2]
      · simp only [if_neg w1] at h1
        simp only [what_g w0 w1, if_neg (show ¬ (3 : Int32) = 0 by decide), if_neg (show ¬ (2 : Int32) = 0 by decide), if_neg (show ¬ (1 : Int32) = 0 by decide)]
        rcases h1 with ⟨h1, -⟩ | ⟨-, rfl, rfl, rfl, rfl⟩ | ⟨h1, -⟩ | ⟨w, h1, -⟩
        · exact absurd (Sum.inl.inj h1) (by decide +kernel)
        · exact ⟨_, rfl, rfl, fun y => absurd y (by decide), Inv_mk hI⟩
        · exact absurd (Sum.inl.inj h1) (by decide +kernel)
        · cases h1
theorem tie_wins_31 {T : Nat → Int64} {ck : Nat → Int32} {cn : Int32} {th : Int32} {ks : Nat → Int32} {kc : Int32} {rn : Nat → Int32} {oc : Nat → Int32} {hd : Nat → Int32} {hs : Int32} {se : Nat → Int32} {bd : Nat → Int32} {dk : Nat → Int32} {ct : Int32} {bo : Int32} {wi : Nat → Int32} {sh : Nat → Int32} {lf : Nat → Int32} {lc : Int32} {mo : Int32} {ah : Int32} {b j : Nat} (hI : iv_ok T ck cn ks se bd 3 dk j 1 wi sh)  (a1 : Int32) (a2 : Int32) : ∀ (k : Int32) (z : Int64) (T1 : Nat → Int64) (dk1 : Nat → Int32) (dn1 : Int32) (v : Option Value) (S1 : mS), (((px_up T ck cn (if q_seat a1 then .inl ex_IO else if a2 = 0 then (if T a1.toNatClampNeg = 0 then .inl ex_IS else if g_bs T < 3 then .inl ex_IS else r_i (g_cb T a1 0 2 (T (6 : Int32).toNatClampNeg) (g_free T))) else if a2 = 1 then (if T a1.toNatClampNeg = 0 then .inl ex_IS else if g_bs T < 3 then .inl ex_IS else r_i (g_cb T a1 1 2 (T (6 : Int32).toNatClampNeg) (g_free T))) else .inl ex_IA)) = .inl ex_IO ∧ k = 1 ∧ T1 = T ∧ dk1 = ck ∧ dn1 = cn) ∨ ((px_up T ck cn (if q_seat a1 then .inl ex_IO else if a2 = 0 then (if T a1.toNatClampNeg = 0 then .inl ex_IS else if g_bs T < 3 then .inl ex_IS else r_i (g_cb T a1 0 2 (T (6 : Int32).toNatClampNeg) (g_free T))) else if a2 = 1 then (if T a1.toNatClampNeg = 0 then .inl ex_IS else if g_bs T < 3 then .inl ex_IS else r_i (g_cb T a1 1 2 (T (6 : Int32).toNatClampNeg) (g_free T))) else .inl ex_IA)) = .inl ex_IA ∧ k = 2 ∧ T1 = T ∧ dk1 = ck ∧ dn1 = cn) ∨ ((px_up T ck cn (if q_seat a1 then .inl ex_IO else if a2 = 0 then (if T a1.toNatClampNeg = 0 then .inl ex_IS else if g_bs T < 3 then .inl ex_IS else r_i (g_cb T a1 0 2 (T (6 : Int32).toNatClampNeg) (g_free T))) else if a2 = 1 then (if T a1.toNatClampNeg = 0 then .inl ex_IS else if g_bs T < 3 then .inl ex_IS else r_i (g_cb T a1 1 2 (T (6 : Int32).toNatClampNeg) (g_free T))) else .inl ex_IA)) = .inl ex_IS ∧ k = 3 ∧ T1 = T ∧ dk1 = ck ∧ dn1 = cn) ∨ (∃ v : Int32, (px_up T ck cn (if q_seat a1 then .inl ex_IO else if a2 = 0 then (if T a1.toNatClampNeg = 0 then .inl ex_IS else if g_bs T < 3 then .inl ex_IS else r_i (g_cb T a1 0 2 (T (6 : Int32).toNatClampNeg) (g_free T))) else if a2 = 1 then (if T a1.toNatClampNeg = 0 then .inl ex_IS else if g_bs T < 3 then .inl ex_IS else r_i (g_cb T a1 1 2 (T (6 : Int32).toNatClampNeg) (g_free T))) else .inl ex_IA)) = .inr (some (.int v), T1, dk1, dn1) ∧ k = 0 ∧ z = v.toInt64)) → (fun v9 S9 => v9 = some (.int (if m_noSeat a1 = 0 then (if a2 < 0 then 0 else if a2 ≤ 1 then (if se (2 * a1).toNatClampNeg = -1 then 0 else if 3 ≤ nI 3 then (if a2 = 0 then wi a1.toNatClampNeg else sh a1.toNatClampNeg) else 0) else 0) else 0)) ∧ S9 = ((if m_noSeat a1 = 0 then (if a2 < 0 then 2 else if a2 ≤ 1 then (if se (2 * a1).toNatClampNeg = -1 then 3 else if 3 ≤ nI 3 then 0 else 3) else 2) else 1), ks, kc, rn, oc, hd, hs, se, bd, (nI 3), dk, (nI j), 1, bo, wi, sh, lf, lc, mo, ah)) v S1 → ∃ y : Int32, v = some (.int y) ∧ k = S1.1 ∧ (k = 0 → z = y.toInt64) ∧ Inv T1 dk1 dn1 S1 := by
  intro k z T1 dk1 dn1 v S1 h1 h2
  obtain ⟨rfl, rfl⟩ := h2
  simp only [px_up_ite, px_up_l, px_up_r, iv_bs hI, show (6 : Int32).toNatClampNeg = 6 from rfl, if_neg (show ¬ nI 3 < 3 by decide)] at h1
  by_cases hq : q_seat a1
  · have hm : ¬ m_noSeat a1 = 0 := fun y => (seat_iff a1).mp y hq
    simp only [if_pos hq, if_neg hm, if_pos (show (3 : Int32) ≤ nI 3 by decide)] at h1 ⊢
    rcases h1 with ⟨-, rfl, rfl, rfl, rfl⟩ | ⟨h1, -⟩ | ⟨h1, -⟩ | ⟨w, h1, -⟩
    · exact ⟨_, rfl, rfl, fun y => absurd y (by decide), Inv_mk hI⟩
    · exact absurd (Sum.inl.inj h1) (by decide +kernel)
    · exact absurd (Sum.inl.inj h1) (by decide +kernel)
    · cases h1
  · have hm := (seat_iff a1).mpr hq
    obtain ⟨q, hq6, rfl⟩ := seat_of hq
    simp only [if_neg hq, if_pos hm, nI_clamp (show q < 2 ^ 31 by omega), c2 hq6] at h1 ⊢
    by_cases w0 : a2 = 0
    · subst w0
      simp only [if_pos, if_neg (show ¬ (0 : Int32) < 0 by decide), if_pos (show (0 : Int32) ≤ 1 by decide)] at h1 ⊢
      by_cases h0 : T q = 0
      · have hse := (iv_T0 hI hq6).mp h0
        simp only [if_pos h0, if_pos hse, if_pos (show (3 : Int32) ≤ nI 3 by decide)] at h1 ⊢
        rcases h1 with ⟨h1, -⟩ | ⟨h1, -⟩ | ⟨-, rfl, rfl, rfl, rfl⟩ | ⟨w, h1, -⟩
        · exact absurd (Sum.inl.inj h1) (by decide +kernel)
        · exact absurd (Sum.inl.inj h1) (by decide +kernel)
        · exact ⟨_, rfl, rfl, fun y => absurd y (by decide), Inv_mk hI⟩
        · cases h1
      · have hse : ¬ se (2 * q) = -1 := fun y => h0 ((iv_T0 hI hq6).mpr y)
        simp only [if_neg h0, if_neg hse, if_pos, if_pos (show (3 : Int32) ≤ nI 3 by decide)] at h1 ⊢
        rcases h1 with ⟨h1, -⟩ | ⟨h1, -⟩ | ⟨h1, -⟩ | ⟨w, h1, rfl, rfl⟩
        · cases h1
        · cases h1
        · cases h1
        · obtain ⟨e1, rfl, rfl, rfl⟩ := inr_mu h1
          have e1 := Value.int.inj (Option.some.inj e1)
          obtain ⟨zz, ww, yy, hc⟩ := iv_old hI (by decide)
          refine ⟨_, rfl, rfl, fun _ => ?_, Inv_mk hI⟩
          rw [← e1, ← (all_3 hI hq6 zz ww yy).1, (hc q hq6).1]
    · simp only [if_neg w0] at h1 ⊢
      by_cases w1 : a2 = 1
      · subst w1
        simp only [if_pos, if_neg (show ¬ (1 : Int32) < 0 by decide), if_pos (show (1 : Int32) ≤ 1 by decide)] at h1 ⊢
        by_cases h0 : T q = 0
        · have hse := (iv_T0 hI hq6).mp h0
          simp only [if_pos h0, if_pos hse, if_pos (show (3 : Int32) ≤ nI 3 by decide)] at h1 ⊢
          rcases h1 with ⟨h1, -⟩ | ⟨h1, -⟩ | ⟨-, rfl, rfl, rfl, rfl⟩ | ⟨w, h1, -⟩
          · exact absurd (Sum.inl.inj h1) (by decide +kernel)
          · exact absurd (Sum.inl.inj h1) (by decide +kernel)
          · exact ⟨_, rfl, rfl, fun y => absurd y (by decide), Inv_mk hI⟩
          · cases h1
        · have hse : ¬ se (2 * q) = -1 := fun y => h0 ((iv_T0 hI hq6).mpr y)
          simp only [if_neg h0, if_neg hse, if_pos, if_pos (show (3 : Int32) ≤ nI 3 by decide)] at h1 ⊢
          rcases h1 with ⟨h1, -⟩ | ⟨h1, -⟩ | ⟨h1, -⟩ | ⟨w, h1, rfl, rfl⟩
          · cases h1
          · cases h1
          · cases h1
          · obtain ⟨e1, rfl, rfl, rfl⟩ := inr_mu h1
            have e1 := Value.int.inj (Option.some.inj e1)
            obtain ⟨zz, ww, yy, hc⟩ := iv_old hI (by decide)
            refine ⟨_, rfl, rfl, fun _ => ?_, Inv_mk hI⟩
            rw [← e1, ← (all_3 hI hq6 zz ww yy).2, (hc q hq6).2]
      · simp only [if_neg w1] at h1
        simp only [what_g w0 w1]
        rcases h1 with ⟨h1, -⟩ | ⟨-, rfl, rfl, rfl, rfl⟩ | ⟨h1, -⟩ | ⟨w, h1, -⟩
        · exact absurd (Sum.inl.inj h1) (by decide +kernel)
        · exact ⟨_, rfl, rfl, fun y => absurd y (by decide), Inv_mk hI⟩
        · exact absurd (Sum.inl.inj h1) (by decide +kernel)
        · cases h1
theorem tie_wins_40 {T : Nat → Int64} {ck : Nat → Int32} {cn : Int32} {th : Int32} {ks : Nat → Int32} {kc : Int32} {rn : Nat → Int32} {oc : Nat → Int32} {hd : Nat → Int32} {hs : Int32} {se : Nat → Int32} {bd : Nat → Int32} {dk : Nat → Int32} {ct : Int32} {bo : Int32} {wi : Nat → Int32} {sh : Nat → Int32} {lf : Nat → Int32} {lc : Int32} {mo : Int32} {ah : Int32} {b j : Nat} (hI : iv_ok T ck cn ks se bd 4 dk j 0 wi sh)  (a1 : Int32) (a2 : Int32) : ∀ (k : Int32) (z : Int64) (T1 : Nat → Int64) (dk1 : Nat → Int32) (dn1 : Int32) (v : Option Value) (S1 : mS), (((px_up T ck cn (if q_seat a1 then .inl ex_IO else if a2 = 0 then (if T a1.toNatClampNeg = 0 then .inl ex_IS else if g_bs T < 3 then .inl ex_IS else r_i (g_cb T a1 0 1 (T (6 : Int32).toNatClampNeg) (g_free T))) else if a2 = 1 then (if T a1.toNatClampNeg = 0 then .inl ex_IS else if g_bs T < 3 then .inl ex_IS else r_i (g_cb T a1 1 1 (T (6 : Int32).toNatClampNeg) (g_free T))) else .inl ex_IA)) = .inl ex_IO ∧ k = 1 ∧ T1 = T ∧ dk1 = ck ∧ dn1 = cn) ∨ ((px_up T ck cn (if q_seat a1 then .inl ex_IO else if a2 = 0 then (if T a1.toNatClampNeg = 0 then .inl ex_IS else if g_bs T < 3 then .inl ex_IS else r_i (g_cb T a1 0 1 (T (6 : Int32).toNatClampNeg) (g_free T))) else if a2 = 1 then (if T a1.toNatClampNeg = 0 then .inl ex_IS else if g_bs T < 3 then .inl ex_IS else r_i (g_cb T a1 1 1 (T (6 : Int32).toNatClampNeg) (g_free T))) else .inl ex_IA)) = .inl ex_IA ∧ k = 2 ∧ T1 = T ∧ dk1 = ck ∧ dn1 = cn) ∨ ((px_up T ck cn (if q_seat a1 then .inl ex_IO else if a2 = 0 then (if T a1.toNatClampNeg = 0 then .inl ex_IS else if g_bs T < 3 then .inl ex_IS else r_i (g_cb T a1 0 1 (T (6 : Int32).toNatClampNeg) (g_free T))) else if a2 = 1 then (if T a1.toNatClampNeg = 0 then .inl ex_IS else if g_bs T < 3 then .inl ex_IS else r_i (g_cb T a1 1 1 (T (6 : Int32).toNatClampNeg) (g_free T))) else .inl ex_IA)) = .inl ex_IS ∧ k = 3 ∧ T1 = T ∧ dk1 = ck ∧ dn1 = cn) ∨ (∃ v : Int32, (px_up T ck cn (if q_seat a1 then .inl ex_IO else if a2 = 0 then (if T a1.toNatClampNeg = 0 then .inl ex_IS else if g_bs T < 3 then .inl ex_IS else r_i (g_cb T a1 0 1 (T (6 : Int32).toNatClampNeg) (g_free T))) else if a2 = 1 then (if T a1.toNatClampNeg = 0 then .inl ex_IS else if g_bs T < 3 then .inl ex_IS else r_i (g_cb T a1 1 1 (T (6 : Int32).toNatClampNeg) (g_free T))) else .inl ex_IA)) = .inr (some (.int v), T1, dk1, dn1) ∧ k = 0 ∧ z = v.toInt64)) → (fun v9 S9 => v9 = some (.int (if m_noSeat a1 = 0 then (if a2 < 0 then 0 else if a2 ≤ 1 then (if se (2 * a1).toNatClampNeg = -1 then 0 else (if a2 = 0 then (k_all se bd 4 lf wi sh).1 a1.toNatClampNeg else (k_all se bd 4 lf wi sh).2 a1.toNatClampNeg)) else 0) else 0)) ∧ ∃ (rn' : Nat → Int32) (oc' : Nat → Int32) (hd' : Nat → Int32) (hs' : Int32) (mo' : Int32) (ah' : Int32) (bo' : Int32) (lf' : Nat → Int32) (lc' : Int32), S9 = ((if m_noSeat a1 = 0 then (if a2 < 0 then 2 else if a2 ≤ 1 then (if se (2 * a1).toNatClampNeg = -1 then 3 else 0) else 2) else 1), ks, kc, rn', oc', hd', hs', se, bd, (nI 4), dk, (nI j), (if (if m_noSeat a1 = 0 then (if a2 < 0 then 2 else if a2 ≤ 1 then (if se (2 * a1).toNatClampNeg = -1 then 3 else 0) else 2) else 1) = 0 then 1 else 0), bo', (if (if m_noSeat a1 = 0 then (if a2 < 0 then 2 else if a2 ≤ 1 then (if se (2 * a1).toNatClampNeg = -1 then 3 else 0) else 2) else 1) = 0 then (k_all se bd 4 lf wi sh).1 else wi), (if (if m_noSeat a1 = 0 then (if a2 < 0 then 2 else if a2 ≤ 1 then (if se (2 * a1).toNatClampNeg = -1 then 3 else 0) else 2) else 1) = 0 then (k_all se bd 4 lf wi sh).2 else sh), lf', lc', mo', ah')) v S1 → ∃ y : Int32, v = some (.int y) ∧ k = S1.1 ∧ (k = 0 → z = y.toInt64) ∧ Inv T1 dk1 dn1 S1 := by
  intro k z T1 dk1 dn1 v S1 h1 h2
  obtain ⟨rfl, rn', oc', hd', hs', mo', ah', bo', lf', lc', rfl⟩ := h2
  simp only [px_up_ite, px_up_l, px_up_r, iv_bs hI, show (6 : Int32).toNatClampNeg = 6 from rfl, if_neg (show ¬ nI 4 < 3 by decide)] at h1
  by_cases hq : q_seat a1
  · have hm : ¬ m_noSeat a1 = 0 := fun y => (seat_iff a1).mp y hq
    simp only [if_pos hq, if_neg hm, if_neg (show ¬ (3 : Int32) = 0 by decide), if_neg (show ¬ (2 : Int32) = 0 by decide), if_neg (show ¬ (1 : Int32) = 0 by decide)] at h1 ⊢
    rcases h1 with ⟨-, rfl, rfl, rfl, rfl⟩ | ⟨h1, -⟩ | ⟨h1, -⟩ | ⟨w, h1, -⟩
    · exact ⟨_, rfl, rfl, fun y => absurd y (by decide), Inv_mk hI⟩
    · exact absurd (Sum.inl.inj h1) (by decide +kernel)
    · exact absurd (Sum.inl.inj h1) (by decide +kernel)
    · cases h1
  · have hm := (seat_iff a1).mpr hq
    obtain ⟨q, hq6, rfl⟩ := seat_of hq
    simp only [if_neg hq, if_pos hm, nI_clamp (show q < 2 ^ 31 by omega), c2 hq6] at h1 ⊢
    by_cases w0 : a2 = 0
    · subst w0
      simp only [if_pos, if_neg (show ¬ (0 : Int32) < 0 by decide), if_pos (show (0 : Int32) ≤ 1 by decide)] at h1 ⊢
      by_cases h0 : T q = 0
      · have hse := (iv_T0 hI hq6).mp h0
        simp only [if_pos h0, if_pos hse, if_neg (show ¬ (3 : Int32) = 0 by decide), if_neg (show ¬ (2 : Int32) = 0 by decide), if_neg (show ¬ (1 : Int32) = 0 by decide)] at h1 ⊢
        rcases h1 with ⟨h1, -⟩ | ⟨h1, -⟩ | ⟨-, rfl, rfl, rfl, rfl⟩ | ⟨w, h1, -⟩
        · exact absurd (Sum.inl.inj h1) (by decide +kernel)
        · exact absurd (Sum.inl.inj h1) (by decide +kernel)
        · exact ⟨_, rfl, rfl, fun y => absurd y (by decide), Inv_mk hI⟩
        · cases h1
      · have hse : ¬ se (2 * q) = -1 := fun y => h0 ((iv_T0 hI hq6).mpr y)
        simp only [if_neg h0, if_neg hse, if_pos] at h1 ⊢
        rcases h1 with ⟨h1, -⟩ | ⟨h1, -⟩ | ⟨h1, -⟩ | ⟨w, h1, rfl, rfl⟩
        · cases h1
        · cases h1
        · cases h1
        · obtain ⟨e1, rfl, rfl, rfl⟩ := inr_mu h1
          have e1 := Value.int.inj (Option.some.inj e1)
          refine ⟨_, rfl, rfl, fun _ => ?_, Inv_mk (iv_new hI lf wi sh)⟩
          rw [← e1, ← (all_4 hI hq6 lf wi sh).1]
    · simp only [if_neg w0] at h1 ⊢
      by_cases w1 : a2 = 1
      · subst w1
        simp only [if_pos, if_neg (show ¬ (1 : Int32) < 0 by decide), if_pos (show (1 : Int32) ≤ 1 by decide)] at h1 ⊢
        by_cases h0 : T q = 0
        · have hse := (iv_T0 hI hq6).mp h0
          simp only [if_pos h0, if_pos hse, if_neg (show ¬ (3 : Int32) = 0 by decide), if_neg (show ¬ (2 : Int32) = 0 by decide), if_neg (show ¬ (1 : Int32) = 0 by decide)] at h1 ⊢
          rcases h1 with ⟨h1, -⟩ | ⟨h1, -⟩ | ⟨-, rfl, rfl, rfl, rfl⟩ | ⟨w, h1, -⟩
          · exact absurd (Sum.inl.inj h1) (by decide +kernel)
          · exact absurd (Sum.inl.inj h1) (by decide +kernel)
          · exact ⟨_, rfl, rfl, fun y => absurd y (by decide), Inv_mk hI⟩
          · cases h1
        · have hse : ¬ se (2 * q) = -1 := fun y => h0 ((iv_T0 hI hq6).mpr y)
          simp only [if_neg h0, if_neg hse, if_pos] at h1 ⊢
          rcases h1 with ⟨h1, -⟩ | ⟨h1, -⟩ | ⟨h1, -⟩ | ⟨w, h1, rfl, rfl⟩
          · cases h1
          · cases h1
          · cases h1
          · obtain ⟨e1, rfl, rfl, rfl⟩ := inr_mu h1
            have e1 := Value.int.inj (Option.some.inj e1)
            refine ⟨_, rfl, rfl, fun _ => ?_, Inv_mk (iv_new hI lf wi sh)⟩
            rw [← e1, ← (all_4 hI hq6 lf wi sh).2]
      · simp only [if_neg w1] at h1
        simp only [what_g w0 w1, if_neg (show ¬ (3 : Int32) = 0 by decide), if_neg (show ¬ (2 : Int32) = 0 by decide), if_neg (show ¬ (1 : Int32) = 0 by decide)]
        rcases h1 with ⟨h1, -⟩ | ⟨-, rfl, rfl, rfl, rfl⟩ | ⟨h1, -⟩ | ⟨w, h1, -⟩
        · exact absurd (Sum.inl.inj h1) (by decide +kernel)
        · exact ⟨_, rfl, rfl, fun y => absurd y (by decide), Inv_mk hI⟩
        · exact absurd (Sum.inl.inj h1) (by decide +kernel)
        · cases h1
theorem tie_wins_41 {T : Nat → Int64} {ck : Nat → Int32} {cn : Int32} {th : Int32} {ks : Nat → Int32} {kc : Int32} {rn : Nat → Int32} {oc : Nat → Int32} {hd : Nat → Int32} {hs : Int32} {se : Nat → Int32} {bd : Nat → Int32} {dk : Nat → Int32} {ct : Int32} {bo : Int32} {wi : Nat → Int32} {sh : Nat → Int32} {lf : Nat → Int32} {lc : Int32} {mo : Int32} {ah : Int32} {b j : Nat} (hI : iv_ok T ck cn ks se bd 4 dk j 1 wi sh)  (a1 : Int32) (a2 : Int32) : ∀ (k : Int32) (z : Int64) (T1 : Nat → Int64) (dk1 : Nat → Int32) (dn1 : Int32) (v : Option Value) (S1 : mS), (((px_up T ck cn (if q_seat a1 then .inl ex_IO else if a2 = 0 then (if T a1.toNatClampNeg = 0 then .inl ex_IS else if g_bs T < 3 then .inl ex_IS else r_i (g_cb T a1 0 1 (T (6 : Int32).toNatClampNeg) (g_free T))) else if a2 = 1 then (if T a1.toNatClampNeg = 0 then .inl ex_IS else if g_bs T < 3 then .inl ex_IS else r_i (g_cb T a1 1 1 (T (6 : Int32).toNatClampNeg) (g_free T))) else .inl ex_IA)) = .inl ex_IO ∧ k = 1 ∧ T1 = T ∧ dk1 = ck ∧ dn1 = cn) ∨ ((px_up T ck cn (if q_seat a1 then .inl ex_IO else if a2 = 0 then (if T a1.toNatClampNeg = 0 then .inl ex_IS else if g_bs T < 3 then .inl ex_IS else r_i (g_cb T a1 0 1 (T (6 : Int32).toNatClampNeg) (g_free T))) else if a2 = 1 then (if T a1.toNatClampNeg = 0 then .inl ex_IS else if g_bs T < 3 then .inl ex_IS else r_i (g_cb T a1 1 1 (T (6 : Int32).toNatClampNeg) (g_free T))) else .inl ex_IA)) = .inl ex_IA ∧ k = 2 ∧ T1 = T ∧ dk1 = ck ∧ dn1 = cn) ∨ ((px_up T ck cn (if q_seat a1 then .inl ex_IO else if a2 = 0 then (if T a1.toNatClampNeg = 0 then .inl ex_IS else if g_bs T < 3 then .inl ex_IS else r_i (g_cb T a1 0 1 (T (6 : Int32).toNatClampNeg) (g_free T))) else if a2 = 1 then (if T a1.toNatClampNeg = 0 then .inl ex_IS else if g_bs T < 3 then .inl ex_IS else r_i (g_cb T a1 1 1 (T (6 : Int32).toNatClampNeg) (g_free T))) else .inl ex_IA)) = .inl ex_IS ∧ k = 3 ∧ T1 = T ∧ dk1 = ck ∧ dn1 = cn) ∨ (∃ v : Int32, (px_up T ck cn (if q_seat a1 then .inl ex_IO else if a2 = 0 then (if T a1.toNatClampNeg = 0 then .inl ex_IS else if g_bs T < 3 then .inl ex_IS else r_i (g_cb T a1 0 1 (T (6 : Int32).toNatClampNeg) (g_free T))) else if a2 = 1 then (if T a1.toNatClampNeg = 0 then .inl ex_IS else if g_bs T < 3 then .inl ex_IS else r_i (g_cb T a1 1 1 (T (6 : Int32).toNatClampNeg) (g_free T))) else .inl ex_IA)) = .inr (some (.int v), T1, dk1, dn1) ∧ k = 0 ∧ z = v.toInt64)) → (fun v9 S9 => v9 = some (.int (if m_noSeat a1 = 0 then (if a2 < 0 then 0 else if a2 ≤ 1 then (if se (2 * a1).toNatClampNeg = -1 then 0 else if 3 ≤ nI 4 then (if a2 = 0 then wi a1.toNatClampNeg else sh a1.toNatClampNeg) else 0) else 0) else 0)) ∧ S9 = ((if m_noSeat a1 = 0 then (if a2 < 0 then 2 else if a2 ≤ 1 then (if se (2 * a1).toNatClampNeg = -1 then 3 else if 3 ≤ nI 4 then 0 else 3) else 2) else 1), ks, kc, rn, oc, hd, hs, se, bd, (nI 4), dk, (nI j), 1, bo, wi, sh, lf, lc, mo, ah)) v S1 → ∃ y : Int32, v = some (.int y) ∧ k = S1.1 ∧ (k = 0 → z = y.toInt64) ∧ Inv T1 dk1 dn1 S1 := by
  intro k z T1 dk1 dn1 v S1 h1 h2
  obtain ⟨rfl, rfl⟩ := h2
  simp only [px_up_ite, px_up_l, px_up_r, iv_bs hI, show (6 : Int32).toNatClampNeg = 6 from rfl, if_neg (show ¬ nI 4 < 3 by decide)] at h1
  by_cases hq : q_seat a1
  · have hm : ¬ m_noSeat a1 = 0 := fun y => (seat_iff a1).mp y hq
    simp only [if_pos hq, if_neg hm, if_pos (show (3 : Int32) ≤ nI 4 by decide)] at h1 ⊢
    rcases h1 with ⟨-, rfl, rfl, rfl, rfl⟩ | ⟨h1, -⟩ | ⟨h1, -⟩ | ⟨w, h1, -⟩
    · exact ⟨_, rfl, rfl, fun y => absurd y (by decide), Inv_mk hI⟩
    · exact absurd (Sum.inl.inj h1) (by decide +kernel)
    · exact absurd (Sum.inl.inj h1) (by decide +kernel)
    · cases h1
  · have hm := (seat_iff a1).mpr hq
    obtain ⟨q, hq6, rfl⟩ := seat_of hq
    simp only [if_neg hq, if_pos hm, nI_clamp (show q < 2 ^ 31 by omega), c2 hq6] at h1 ⊢
    by_cases w0 : a2 = 0
    · subst w0
      simp only [if_pos, if_neg (show ¬ (0 : Int32) < 0 by decide), if_pos (show (0 : Int32) ≤ 1 by decide)] at h1 ⊢
      by_cases h0 : T q = 0
      · have hse := (iv_T0 hI hq6).mp h0
        simp only [if_pos h0, if_pos hse, if_pos (show (3 : Int32) ≤ nI 4 by decide)] at h1 ⊢
        rcases h1 with ⟨h1, -⟩ | ⟨h1, -⟩ | ⟨-, rfl, rfl, rfl, rfl⟩ | ⟨w, h1, -⟩
        · exact absurd (Sum.inl.inj h1) (by decide +kernel)
        · exact absurd (Sum.inl.inj h1) (by decide +kernel)
        · exact ⟨_, rfl, rfl, fun y => absurd y (by decide), Inv_mk hI⟩
        · cases h1
      · have hse : ¬ se (2 * q) = -1 := fun y => h0 ((iv_T0 hI hq6).mpr y)
        simp only [if_neg h0, if_neg hse, if_pos, if_pos (show (3 : Int32) ≤ nI 4 by decide)] at h1 ⊢
        rcases h1 with ⟨h1, -⟩ | ⟨h1, -⟩ | ⟨h1, -⟩ | ⟨w, h1, rfl, rfl⟩
        · cases h1
        · cases h1
        · cases h1
        · obtain ⟨e1, rfl, rfl, rfl⟩ := inr_mu h1
          have e1 := Value.int.inj (Option.some.inj e1)
          obtain ⟨zz, ww, yy, hc⟩ := iv_old hI (by decide)
          refine ⟨_, rfl, rfl, fun _ => ?_, Inv_mk hI⟩
          rw [← e1, ← (all_4 hI hq6 zz ww yy).1, (hc q hq6).1]
    · simp only [if_neg w0] at h1 ⊢
      by_cases w1 : a2 = 1
      · subst w1
        simp only [if_pos, if_neg (show ¬ (1 : Int32) < 0 by decide), if_pos (show (1 : Int32) ≤ 1 by decide)] at h1 ⊢
        by_cases h0 : T q = 0
        · have hse := (iv_T0 hI hq6).mp h0
          simp only [if_pos h0, if_pos hse, if_pos (show (3 : Int32) ≤ nI 4 by decide)] at h1 ⊢
          rcases h1 with ⟨h1, -⟩ | ⟨h1, -⟩ | ⟨-, rfl, rfl, rfl, rfl⟩ | ⟨w, h1, -⟩
          · exact absurd (Sum.inl.inj h1) (by decide +kernel)
          · exact absurd (Sum.inl.inj h1) (by decide +kernel)
          · exact ⟨_, rfl, rfl, fun y => absurd y (by decide), Inv_mk hI⟩
          · cases h1
        · have hse : ¬ se (2 * q) = -1 := fun y => h0 ((iv_T0 hI hq6).mpr y)
          simp only [if_neg h0, if_neg hse, if_pos, if_pos (show (3 : Int32) ≤ nI 4 by decide)] at h1 ⊢
          rcases h1 with ⟨h1, -⟩ | ⟨h1, -⟩ | ⟨h1, -⟩ | ⟨w, h1, rfl, rfl⟩
          · cases h1
          · cases h1
          · cases h1
          · obtain ⟨e1, rfl, rfl, rfl⟩ := inr_mu h1
            have e1 := Value.int.inj (Option.some.inj e1)
            obtain ⟨zz, ww, yy, hc⟩ := iv_old hI (by decide)
            refine ⟨_, rfl, rfl, fun _ => ?_, Inv_mk hI⟩
            rw [← e1, ← (all_4 hI hq6 zz ww yy).2, (hc q hq6).2]
      · simp only [if_neg w1] at h1
        simp only [what_g w0 w1]
        rcases h1 with ⟨h1, -⟩ | ⟨-, rfl, rfl, rfl, rfl⟩ | ⟨h1, -⟩ | ⟨w, h1, -⟩
        · exact absurd (Sum.inl.inj h1) (by decide +kernel)
        · exact ⟨_, rfl, rfl, fun y => absurd y (by decide), Inv_mk hI⟩
        · exact absurd (Sum.inl.inj h1) (by decide +kernel)
        · cases h1
theorem tie_wins_50 {T : Nat → Int64} {ck : Nat → Int32} {cn : Int32} {th : Int32} {ks : Nat → Int32} {kc : Int32} {rn : Nat → Int32} {oc : Nat → Int32} {hd : Nat → Int32} {hs : Int32} {se : Nat → Int32} {bd : Nat → Int32} {dk : Nat → Int32} {ct : Int32} {bo : Int32} {wi : Nat → Int32} {sh : Nat → Int32} {lf : Nat → Int32} {lc : Int32} {mo : Int32} {ah : Int32} {b j : Nat} (hI : iv_ok T ck cn ks se bd 5 dk j 0 wi sh)  (a1 : Int32) (a2 : Int32) : ∀ (k : Int32) (z : Int64) (T1 : Nat → Int64) (dk1 : Nat → Int32) (dn1 : Int32) (v : Option Value) (S1 : mS), (((px_up T ck cn (if q_seat a1 then .inl ex_IO else if a2 = 0 then (if T a1.toNatClampNeg = 0 then .inl ex_IS else if g_bs T < 3 then .inl ex_IS else r_i (g_cb T a1 0 0 (T (6 : Int32).toNatClampNeg) (g_free T))) else if a2 = 1 then (if T a1.toNatClampNeg = 0 then .inl ex_IS else if g_bs T < 3 then .inl ex_IS else r_i (g_cb T a1 1 0 (T (6 : Int32).toNatClampNeg) (g_free T))) else .inl ex_IA)) = .inl ex_IO ∧ k = 1 ∧ T1 = T ∧ dk1 = ck ∧ dn1 = cn) ∨ ((px_up T ck cn (if q_seat a1 then .inl ex_IO else if a2 = 0 then (if T a1.toNatClampNeg = 0 then .inl ex_IS else if g_bs T < 3 then .inl ex_IS else r_i (g_cb T a1 0 0 (T (6 : Int32).toNatClampNeg) (g_free T))) else if a2 = 1 then (if T a1.toNatClampNeg = 0 then .inl ex_IS else if g_bs T < 3 then .inl ex_IS else r_i (g_cb T a1 1 0 (T (6 : Int32).toNatClampNeg) (g_free T))) else .inl ex_IA)) = .inl ex_IA ∧ k = 2 ∧ T1 = T ∧ dk1 = ck ∧ dn1 = cn) ∨ ((px_up T ck cn (if q_seat a1 then .inl ex_IO else if a2 = 0 then (if T a1.toNatClampNeg = 0 then .inl ex_IS else if g_bs T < 3 then .inl ex_IS else r_i (g_cb T a1 0 0 (T (6 : Int32).toNatClampNeg) (g_free T))) else if a2 = 1 then (if T a1.toNatClampNeg = 0 then .inl ex_IS else if g_bs T < 3 then .inl ex_IS else r_i (g_cb T a1 1 0 (T (6 : Int32).toNatClampNeg) (g_free T))) else .inl ex_IA)) = .inl ex_IS ∧ k = 3 ∧ T1 = T ∧ dk1 = ck ∧ dn1 = cn) ∨ (∃ v : Int32, (px_up T ck cn (if q_seat a1 then .inl ex_IO else if a2 = 0 then (if T a1.toNatClampNeg = 0 then .inl ex_IS else if g_bs T < 3 then .inl ex_IS else r_i (g_cb T a1 0 0 (T (6 : Int32).toNatClampNeg) (g_free T))) else if a2 = 1 then (if T a1.toNatClampNeg = 0 then .inl ex_IS else if g_bs T < 3 then .inl ex_IS else r_i (g_cb T a1 1 0 (T (6 : Int32).toNatClampNeg) (g_free T))) else .inl ex_IA)) = .inr (some (.int v), T1, dk1, dn1) ∧ k = 0 ∧ z = v.toInt64)) → (fun v9 S9 => v9 = some (.int (if m_noSeat a1 = 0 then (if a2 < 0 then 0 else if a2 ≤ 1 then (if se (2 * a1).toNatClampNeg = -1 then 0 else (if a2 = 0 then (k_all se bd 5 lf wi sh).1 a1.toNatClampNeg else (k_all se bd 5 lf wi sh).2 a1.toNatClampNeg)) else 0) else 0)) ∧ ∃ (rn' : Nat → Int32) (oc' : Nat → Int32) (hd' : Nat → Int32) (hs' : Int32) (mo' : Int32) (ah' : Int32) (bo' : Int32) (lf' : Nat → Int32) (lc' : Int32), S9 = ((if m_noSeat a1 = 0 then (if a2 < 0 then 2 else if a2 ≤ 1 then (if se (2 * a1).toNatClampNeg = -1 then 3 else 0) else 2) else 1), ks, kc, rn', oc', hd', hs', se, bd, (nI 5), dk, (nI j), (if (if m_noSeat a1 = 0 then (if a2 < 0 then 2 else if a2 ≤ 1 then (if se (2 * a1).toNatClampNeg = -1 then 3 else 0) else 2) else 1) = 0 then 1 else 0), bo', (if (if m_noSeat a1 = 0 then (if a2 < 0 then 2 else if a2 ≤ 1 then (if se (2 * a1).toNatClampNeg = -1 then 3 else 0) else 2) else 1) = 0 then (k_all se bd 5 lf wi sh).1 else wi), (if (if m_noSeat a1 = 0 then (if a2 < 0 then 2 else if a2 ≤ 1 then (if se (2 * a1).toNatClampNeg = -1 then 3 else 0) else 2) else 1) = 0 then (k_all se bd 5 lf wi sh).2 else sh), lf', lc', mo', ah')) v S1 → ∃ y : Int32, v = some (.int y) ∧ k = S1.1 ∧ (k = 0 → z = y.toInt64) ∧ Inv T1 dk1 dn1 S1 := by
  intro k z T1 dk1 dn1 v S1 h1 h2
  obtain ⟨rfl, rn', oc', hd', hs', mo', ah', bo', lf', lc', rfl⟩ := h2
  simp only [px_up_ite, px_up_l, px_up_r, iv_bs hI, show (6 : Int32).toNatClampNeg = 6 from rfl, if_neg (show ¬ nI 5 < 3 by decide)] at h1
  by_cases hq : q_seat a1
  · have hm : ¬ m_noSeat a1 = 0 := fun y => (seat_iff a1).mp y hq
    simp only [if_pos hq, if_neg hm, if_neg (show ¬ (3 : Int32) = 0 by decide), if_neg (show ¬ (2 : Int32) = 0 by decide), if_neg (show ¬ (1 : Int32) = 0 by decide)] at h1 ⊢
    rcases h1 with ⟨-, rfl, rfl, rfl, rfl⟩ | ⟨h1, -⟩ | ⟨h1, -⟩ | ⟨w, h1, -⟩
    · exact ⟨_, rfl, rfl, fun y => absurd y (by decide), Inv_mk hI⟩
    · exact absurd (Sum.inl.inj h1) (by decide +kernel)
    · exact absurd (Sum.inl.inj h1) (by decide +kernel)
    · cases h1
  · have hm := (seat_iff a1).mpr hq
    obtain ⟨q, hq6, rfl⟩ := seat_of hq
    simp only [if_neg hq, if_pos hm, nI_clamp (show q < 2 ^ 31 by omega), c2 hq6] at h1 ⊢
    by_cases w0 : a2 = 0
    · subst w0
      simp only [if_pos, if_neg (show ¬ (0 : Int32) < 0 by decide), if_pos (show (0 : Int32) ≤ 1 by decide)] at h1 ⊢
      by_cases h0 : T q = 0
      · have hse := (iv_T0 hI hq6).mp h0
        simp only [if_pos h0, if_pos hse, if_neg (show ¬ (3 : Int32) = 0 by decide), if_neg (show ¬ (2 : Int32) = 0 by decide), if_neg (show ¬ (1 : Int32) = 0 by decide)] at h1 ⊢
        rcases h1 with ⟨h1, -⟩ | ⟨h1, -⟩ | ⟨-, rfl, rfl, rfl, rfl⟩ | ⟨w, h1, -⟩
        · exact absurd (Sum.inl.inj h1) (by decide +kernel)
        · exact absurd (Sum.inl.inj h1) (by decide +kernel)
        · exact ⟨_, rfl, rfl, fun y => absurd y (by decide), Inv_mk hI⟩
        · cases h1
      · have hse : ¬ se (2 * q) = -1 := fun y => h0 ((iv_T0 hI hq6).mpr y)
        simp only [if_neg h0, if_neg hse, if_pos] at h1 ⊢
        rcases h1 with ⟨h1, -⟩ | ⟨h1, -⟩ | ⟨h1, -⟩ | ⟨w, h1, rfl, rfl⟩
        · cases h1
        · cases h1
        · cases h1
        · obtain ⟨e1, rfl, rfl, rfl⟩ := inr_mu h1
          have e1 := Value.int.inj (Option.some.inj e1)
          refine ⟨_, rfl, rfl, fun _ => ?_, Inv_mk (iv_new hI lf wi sh)⟩
          rw [← e1, ← (all_5 hI hq6 lf wi sh).1]
    · simp only [if_neg w0] at h1 ⊢
      by_cases w1 : a2 = 1
      · subst w1
        simp only [if_pos, if_neg (show ¬ (1 : Int32) < 0 by decide), if_pos (show (1 : Int32) ≤ 1 by decide)] at h1 ⊢
        by_cases h0 : T q = 0
        · have hse := (iv_T0 hI hq6).mp h0
          simp only [if_pos h0, if_pos hse, if_neg (show ¬ (3 : Int32) = 0 by decide), if_neg (show ¬ (2 : Int32) = 0 by decide), if_neg (show ¬ (1 : Int32) = 0 by decide)] at h1 ⊢
          rcases h1 with ⟨h1, -⟩ | ⟨h1, -⟩ | ⟨-, rfl, rfl, rfl, rfl⟩ | ⟨w, h1, -⟩
          · exact absurd (Sum.inl.inj h1) (by decide +kernel)
          · exact absurd (Sum.inl.inj h1) (by decide +kernel)
          · exact ⟨_, rfl, rfl, fun y => absurd y (by decide), Inv_mk hI⟩
          · cases h1
        · have hse : ¬ se (2 * q) = -1 := fun y => h0 ((iv_T0 hI hq6).mpr y)
          simp only [if_neg h0, if_neg hse, if_pos] at h1 ⊢
          rcases h1 with ⟨h1, -⟩ | ⟨h1, -⟩ | ⟨h1, -⟩ | ⟨w, h1, rfl, rfl⟩
          · cases h1
          · cases h1
          · cases h1
          · obtain ⟨e1, rfl, rfl, rfl⟩ := inr_mu h1
            have e1 := Value.int.inj (Option.some.inj e1)
            refine ⟨_, rfl, rfl, fun _ => ?_, Inv_mk (iv_new hI lf wi sh)⟩
            rw [← e1, ← (all_5 hI hq6 lf wi sh).2]
      · simp only [if_neg w1] at h1
        simp only [what_g w0 w1, if_neg (show ¬ (3 : Int32) = 0 by decide), if_neg (show ¬ (2 : Int32) = 0 by decide), if_neg (show ¬ (1 : Int32) = 0 by decide)]
        rcases h1 with ⟨h1, -⟩ | ⟨-, rfl, rfl, rfl, rfl⟩ | ⟨h1, -⟩ | ⟨w, h1, -⟩
        · exact absurd (Sum.inl.inj h1) (by decide +kernel)
        · exact ⟨_, rfl, rfl, fun y => absurd y (by decide), Inv_mk hI⟩
        · exact absurd (Sum.inl.inj h1) (by decide +kernel)
        · cases h1
theorem tie_wins_51 {T : Nat → Int64} {ck : Nat → Int32} {cn : Int32} {th : Int32} {ks : Nat → Int32} {kc : Int32} {rn : Nat → Int32} {oc : Nat → Int32} {hd : Nat → Int32} {hs : Int32} {se : Nat → Int32} {bd : Nat → Int32} {dk : Nat → Int32} {ct : Int32} {bo : Int32} {wi : Nat → Int32} {sh : Nat → Int32} {lf : Nat → Int32} {lc : Int32} {mo : Int32} {ah : Int32} {b j : Nat} (hI : iv_ok T ck cn ks se bd 5 dk j 1 wi sh)  (a1 : Int32) (a2 : Int32) : ∀ (k : Int32) (z : Int64) (T1 : Nat → Int64) (dk1 : Nat → Int32) (dn1 : Int32) (v : Option Value) (S1 : mS), (((px_up T ck cn (if q_seat a1 then .inl ex_IO else if a2 = 0 then (if T a1.toNatClampNeg = 0 then .inl ex_IS else if g_bs T < 3 then .inl ex_IS else r_i (g_cb T a1 0 0 (T (6 : Int32).toNatClampNeg) (g_free T))) else if a2 = 1 then (if T a1.toNatClampNeg = 0 then .inl ex_IS else if g_bs T < 3 then .inl ex_IS else r_i (g_cb T a1 1 0 (T (6 : Int32).toNatClampNeg) (g_free T))) else .inl ex_IA)) = .inl ex_IO ∧ k = 1 ∧ T1 = T ∧ dk1 = ck ∧ dn1 = cn) ∨ ((px_up T ck cn (if q_seat a1 then .inl ex_IO else if a2 = 0 then (if T a1.toNatClampNeg = 0 then .inl ex_IS else if g_bs T < 3 then .inl ex_IS else r_i (g_cb T a1 0 0 (T (6 : Int32).toNatClampNeg) (g_free T))) else if a2 = 1 then (if T a1.toNatClampNeg = 0 then .inl ex_IS else if g_bs T < 3 then .inl ex_IS else r_i (g_cb T a1 1 0 (T (6 : Int32).toNatClampNeg) (g_free T))) else .inl ex_IA)) = .inl ex_IA ∧ k = 2 ∧ T1 = T ∧ dk1 = ck ∧ dn1 = cn) ∨ ((px_up T ck cn (if q_seat a1 then .inl ex_IO else if a2 = 0 then (if T a1.toNatClampNeg = 0 then .inl ex_IS else if g_bs T < 3 then .inl ex_IS else r_i (g_cb T a1 0 0 (T (6 : Int32).toNatClampNeg) (g_free T))) else if a2 = 1 then (if T a1.toNatClampNeg = 0 then .inl ex_IS else if g_bs T < 3 then .inl ex_IS else r_i (g_cb T a1 1 0 (T (6 : Int32).toNatClampNeg) (g_free T))) else .inl ex_IA)) = .inl ex_IS ∧ k = 3 ∧ T1 = T ∧ dk1 = ck ∧ dn1 = cn) ∨ (∃ v : Int32, (px_up T ck cn (if q_seat a1 then .inl ex_IO else if a2 = 0 then (if T a1.toNatClampNeg = 0 then .inl ex_IS else if g_bs T < 3 then .inl ex_IS else r_i (g_cb T a1 0 0 (T (6 : Int32).toNatClampNeg) (g_free T))) else if a2 = 1 then (if T a1.toNatClampNeg = 0 then .inl ex_IS else if g_bs T < 3 then .inl ex_IS else r_i (g_cb T a1 1 0 (T (6 : Int32).toNatClampNeg) (g_free T))) else .inl ex_IA)) = .inr (some (.int v), T1, dk1, dn1) ∧ k = 0 ∧ z = v.toInt64)) → (fun v9 S9 => v9 = some (.int (if m_noSeat a1 = 0 then (if a2 < 0 then 0 else if a2 ≤ 1 then (if se (2 * a1).toNatClampNeg = -1 then 0 else if 3 ≤ nI 5 then (if a2 = 0 then wi a1.toNatClampNeg else sh a1.toNatClampNeg) else 0) else 0) else 0)) ∧ S9 = ((if m_noSeat a1 = 0 then (if a2 < 0 then 2 else if a2 ≤ 1 then (if se (2 * a1).toNatClampNeg = -1 then 3 else if 3 ≤ nI 5 then 0 else 3) else 2) else 1), ks, kc, rn, oc, hd, hs, se, bd, (nI 5), dk, (nI j), 1, bo, wi, sh, lf, lc, mo, ah)) v S1 → ∃ y : Int32, v = some (.int y) ∧ k = S1.1 ∧ (k = 0 → z = y.toInt64) ∧ Inv T1 dk1 dn1 S1 := by
  intro k z T1 dk1 dn1 v S1 h1 h2
  obtain ⟨rfl, rfl⟩ := h2
  simp only [px_up_ite, px_up_l, px_up_r, iv_bs hI, show (6 : Int32).toNatClampNeg = 6 from rfl, if_neg (show ¬ nI 5 < 3 by decide)] at h1
  by_cases hq : q_seat a1
  · have hm : ¬ m_noSeat a1 = 0 := fun y => (seat_iff a1).mp y hq
    simp only [if_pos hq, if_neg hm, if_pos (show (3 : Int32) ≤ nI 5 by decide)] at h1 ⊢
    rcases h1 with ⟨-, rfl, rfl, rfl, rfl⟩ | ⟨h1, -⟩ | ⟨h1, -⟩ | ⟨w, h1, -⟩
    · exact ⟨_, rfl, rfl, fun y => absurd y (by decide), Inv_mk hI⟩
    · exact absurd (Sum.inl.inj h1) (by decide +kernel)
    · exact absurd (Sum.inl.inj h1) (by decide +kernel)
    · cases h1
  · have hm := (seat_iff a1).mpr hq
    obtain ⟨q, hq6, rfl⟩ := seat_of hq
    simp only [if_neg hq, if_pos hm, nI_clamp (show q < 2 ^ 31 by omega), c2 hq6] at h1 ⊢
    by_cases w0 : a2 = 0
    · subst w0
      simp only [if_pos, if_neg (show ¬ (0 : Int32) < 0 by decide), if_pos (show (0 : Int32) ≤ 1 by decide)] at h1 ⊢
      by_cases h0 : T q = 0
      · have hse := (iv_T0 hI hq6).mp h0
        simp only [if_pos h0, if_pos hse, if_pos (show (3 : Int32) ≤ nI 5 by decide)] at h1 ⊢
        rcases h1 with ⟨h1, -⟩ | ⟨h1, -⟩ | ⟨-, rfl, rfl, rfl, rfl⟩ | ⟨w, h1, -⟩
        · exact absurd (Sum.inl.inj h1) (by decide +kernel)
        · exact absurd (Sum.inl.inj h1) (by decide +kernel)
        · exact ⟨_, rfl, rfl, fun y => absurd y (by decide), Inv_mk hI⟩
        · cases h1
      · have hse : ¬ se (2 * q) = -1 := fun y => h0 ((iv_T0 hI hq6).mpr y)
        simp only [if_neg h0, if_neg hse, if_pos, if_pos (show (3 : Int32) ≤ nI 5 by decide)] at h1 ⊢
        rcases h1 with ⟨h1, -⟩ | ⟨h1, -⟩ | ⟨h1, -⟩ | ⟨w, h1, rfl, rfl⟩
        · cases h1
        · cases h1
        · cases h1
        · obtain ⟨e1, rfl, rfl, rfl⟩ := inr_mu h1
          have e1 := Value.int.inj (Option.some.inj e1)
          obtain ⟨zz, ww, yy, hc⟩ := iv_old hI (by decide)
          refine ⟨_, rfl, rfl, fun _ => ?_, Inv_mk hI⟩
          rw [← e1, ← (all_5 hI hq6 zz ww yy).1, (hc q hq6).1]
    · simp only [if_neg w0] at h1 ⊢
      by_cases w1 : a2 = 1
      · subst w1
        simp only [if_pos, if_neg (show ¬ (1 : Int32) < 0 by decide), if_pos (show (1 : Int32) ≤ 1 by decide)] at h1 ⊢
        by_cases h0 : T q = 0
        · have hse := (iv_T0 hI hq6).mp h0
          simp only [if_pos h0, if_pos hse, if_pos (show (3 : Int32) ≤ nI 5 by decide)] at h1 ⊢
          rcases h1 with ⟨h1, -⟩ | ⟨h1, -⟩ | ⟨-, rfl, rfl, rfl, rfl⟩ | ⟨w, h1, -⟩
          · exact absurd (Sum.inl.inj h1) (by decide +kernel)
          · exact absurd (Sum.inl.inj h1) (by decide +kernel)
          · exact ⟨_, rfl, rfl, fun y => absurd y (by decide), Inv_mk hI⟩
          · cases h1
        · have hse : ¬ se (2 * q) = -1 := fun y => h0 ((iv_T0 hI hq6).mpr y)
          simp only [if_neg h0, if_neg hse, if_pos, if_pos (show (3 : Int32) ≤ nI 5 by decide)] at h1 ⊢
          rcases h1 with ⟨h1, -⟩ | ⟨h1, -⟩ | ⟨h1, -⟩ | ⟨w, h1, rfl, rfl⟩
          · cases h1
          · cases h1
          · cases h1
          · obtain ⟨e1, rfl, rfl, rfl⟩ := inr_mu h1
            have e1 := Value.int.inj (Option.some.inj e1)
            obtain ⟨zz, ww, yy, hc⟩ := iv_old hI (by decide)
            refine ⟨_, rfl, rfl, fun _ => ?_, Inv_mk hI⟩
            rw [← e1, ← (all_5 hI hq6 zz ww yy).2, (hc q hq6).2]
      · simp only [if_neg w1] at h1
        simp only [what_g w0 w1]
        rcases h1 with ⟨h1, -⟩ | ⟨-, rfl, rfl, rfl, rfl⟩ | ⟨h1, -⟩ | ⟨w, h1, -⟩
        · exact absurd (Sum.inl.inj h1) (by decide +kernel)
        · exact ⟨_, rfl, rfl, fun y => absurd y (by decide), Inv_mk hI⟩
        · exact absurd (Sum.inl.inj h1) (by decide +kernel)
        · cases h1
