/-! the model: wins; the sort -/
set_option maxHeartbeats 4000000 in
set_option maxRecDepth 100000 in
theorem cM_wins_c (l : Launch) (g : mo_E) (th : Int32) (ks : Nat → Int32) (kc : Int32) (rn : Nat → Int32) (oc : Nat → Int32) (hd : Nat → Int32) (hs : Int32) (se : Nat → Int32) (bd : Nat → Int32) (b : Nat) (dk : Nat → Int32) (dp : Int32) (bo : Int32) (wi : Nat → Int32) (sh : Nat → Int32) (lf : Nat → Int32) (lc : Int32) (mo : Int32) (ah : Int32) (q : Int32) (w : Int32)  (hap : mo_ap g)  : mm_M l yM_wins bM_wins 3 (some .int) 8 [.ref (g.2.2 0), .int q, .int w] g (th, ks, kc, rn, oc, hd, hs, se, bd, (nI b), dk, dp, 1, bo, wi, sh, lf, lc, mo, ah) (fun v9 S9 => v9 = some (.int (if m_noSeat q = 0 then (if w < 0 then 0 else if w ≤ 1 then (if se (2 * q).toNatClampNeg = -1 then 0 else if 3 ≤ nI b then (if w = 0 then wi q.toNatClampNeg else sh q.toNatClampNeg) else 0) else 0) else 0)) ∧ S9 = ((if m_noSeat q = 0 then (if w < 0 then 2 else if w ≤ 1 then (if se (2 * q).toNatClampNeg = -1 then 3 else if 3 ≤ nI b then 0 else 3) else 2) else 1), ks, kc, rn, oc, hd, hs, se, bd, (nI b), dk, dp, 1, bo, wi, sh, lf, lc, mo, ah)) := by
  refine Met.ofW (cc := bM_wins) (maxL := 3) (ret := (some .int)) (by decide) rfl ?_
  intro p e s m args below meth c s₁ BB hml hv
  obtain ⟨rfl, hB⟩ := hv
  have hx := BB.exec
  have hb := BB.bytes
  have hr := BB.returns
  have hlk := BB.notSynchronized
  have hts := atoms_spec (ws := wd yM_wins bM_wins 3 (some .int)) BB.pre
  have hown : s.vm.findClass "HandTablesModel" = some m.cls := findClass_of_methodNamed BB.named
  have hS : CallFix p m c bM_wins 3 s _ (wd yM_wins bM_wins 3 (some .int)) "HandTablesModel" := ⟨hx, hb, hml, hown, hts⟩
  obtain ⟨hP, hK⟩ := hB
  have hP : va_P g.1 cl_X (mo_V g th ks kc rn oc hd hs se bd (nI b) dk dp 1 bo wi sh lf lc mo ah) s.heap := hP
  have hSS : va_S (mo_fr g) s.heap s.heap [] := va_S.rf
  have hl := lv_entry ([.ref (g.2.2 0), .int q, .int w]) (n := 3) (Nat.le_of_ble_eq_true rfl)
  rw [lg_entry_eq]
  generalize (lg_sl ([.ref (g.2.2 0), .int q, .int w]) ++ List.replicate (3 - (lg_sl ([.ref (g.2.2 0), .int q, .int w])).length) Slot.unset).toArray = ls at hl ⊢
  have hl : lv_has ls 3 [(0, .ref (g.2.2 0)), (1, .int q), (2, .int w)] := hl
  obtain ⟨H, eH⟩ : ∃ H, s.heap = H := ⟨_, rfl⟩
  obtain ⟨locs, eL⟩ : ∃ L, ([] : List Loc) = L := ⟨_, rfl⟩
  have hP : va_P g.1 cl_X (mo_V g th ks kc rn oc hd hs se bd (nI b) dk dp 1 bo wi sh lf lc mo ah) H := by rw [← eH]; exact hP
  have hSS : va_S (mo_fr g) s.heap H locs := by rw [← eH, ← eL]; exact hSS
  refine mm_go eH eL ?_
  clear eH eL
  refine lv_aload_n hx hb dM_wins_0 rfl (lv_at hl 0 rfl) ?_
  refine lv_iload_n hx hb dM_wins_1 rfl (lv_at hl 1 rfl) ?_
  refine pu_SH (cM_noSeat l _) rfl kM_M_noSeat hS ⟨Nat.le_of_ble_eq_true rfl, Nat.le_of_ble_eq_true rfl⟩ hl.1 rfl (Nat.le_of_ble_eq_true rfl) ⟨Nat.zero_le _, Nat.zero_le _⟩ dM_wins_2 ?_
  refine lv_if_eq (tgt := 12) hx hb dM_wins_5 (by decide) (fun hc1 => ?_) (fun hc1 => ?_)
  · refine lv_iload_n hx hb dM_wins_12 rfl (lv_at hl 2 rfl) ?_
    refine lv_if_lt (tgt := 21) hx hb dM_wins_13 (by decide) (fun hc2 => ?_) (fun hc2 => ?_)
    · refine lv_iconst (v := 2) hx hb dM_wins_21 (by decide) ?_
      refine lv_goto (tgt := 50) hx hb dM_wins_22 (by decide) ?_
      refine va_put (D := g.1) (ci := 1) (v := .int 2) (ty := .int) (C := "HandTablesModel") (T := T_M) (N := 20) hx hb hts (fun w hw => wd_in (u_inM w hw)) tf_M tf_M_ok n_M hown hK hP (mo_D hap) hSS 0 rfl rfl 0 (by decide) (hts _ (wd_in (gw_mem 457 rfl rfl))) (fun _ h => h) rfl (by decide +kernel) rfl rfl (Nat.le_of_ble_eq_true rfl) dM_wins_50 (fun H locs hP _ hSS => ?_)
      have hP : va_P g.1 cl_X (mo_V g 2 ks kc rn oc hd hs se bd (nI b) dk dp 1 bo wi sh lf lc mo ah) H := hP
      refine lv_aload_n hx hb dM_wins_53 rfl (lv_at hl 0 rfl) ?_
      refine va_get (D := g.1) (ci := 1) (v := .int 2) (C := "HandTablesModel") (T := T_M) (N := 20) hx hb hts (fun w hw => wd_in (u_inM w hw)) hown hK hP 0 rfl rfl 0 (by decide) (hts _ (wd_in (gw_mem 457 rfl rfl))) (fun _ h => h) rfl dM_wins_54 ?_
      refine lv_if_le (tgt := 62) hx hb dM_wins_57 (by decide) (fun hc3 => ?_) (fun hc3 => ?_)
      · first | exact absurd hc3 (by decide) | exact absurd (by decide) hc3
      refine lv_iconst (v := 0) hx hb dM_wins_60 (by decide) ?_
      exact mm_iret (S := (2, ks, kc, rn, oc, hd, hs, se, bd, (nI b), dk, dp, 1, bo, wi, sh, lf, lc, mo, ah)) hx hb hr hlk dM_wins_61 hP hSS (by exact ⟨by (try simp only [if_pos hc1, if_pos hc2]) <;> rfl, by (try simp only [if_pos hc1, if_pos hc2]) <;> rfl⟩)
    · refine lv_iload_n hx hb dM_wins_16 rfl (lv_at hl 2 rfl) ?_
      refine lv_iconst (v := 1) hx hb dM_wins_17 (by decide) ?_
      refine lv_icmp_le (tgt := 25) hx hb dM_wins_18 (by decide) (fun hc4 => ?_) (fun hc4 => ?_)
      · refine lv_aload_n hx hb dM_wins_25 rfl (lv_at hl 0 rfl) ?_
        refine va_get (D := g.1) (ci := 1) (v := .ref (g.2.2 5)) (C := "HandTablesModel") (T := T_M) (N := 20) hx hb hts (fun w hw => wd_in (u_inM w hw)) hown hK hP 0 rfl rfl 7 (by decide) (hts _ (wd_in (gw_mem 464 rfl rfl))) (fun _ h => h) rfl dM_wins_26 ?_
        refine lv_iconst (v := 2) hx hb dM_wins_29 (by decide) ?_
        refine lv_iload_n hx hb dM_wins_30 rfl (lv_at hl 1 rfl) ?_
        refine lv_imul hx hb dM_wins_31 ?_
        refine va_iald hx hb hK hP 5 0 rfl rfl (k_s2 hc1).1 dM_wins_32 ?_
        refine lv_iconst (v := (-1)) hx hb dM_wins_33 (by decide) ?_
        refine lv_icmp_eq (tgt := 45) hx hb dM_wins_34 (by decide) (fun hc5 => ?_) (fun hc5 => ?_)
        · refine lv_iconst (v := 3) hx hb dM_wins_45 (by decide) ?_
          refine lv_goto (tgt := 50) hx hb dM_wins_46 (by decide) ?_
          refine va_put (D := g.1) (ci := 1) (v := .int 3) (ty := .int) (C := "HandTablesModel") (T := T_M) (N := 20) hx hb hts (fun w hw => wd_in (u_inM w hw)) tf_M tf_M_ok n_M hown hK hP (mo_D hap) hSS 0 rfl rfl 0 (by decide) (hts _ (wd_in (gw_mem 457 rfl rfl))) (fun _ h => h) rfl (by decide +kernel) rfl rfl (Nat.le_of_ble_eq_true rfl) dM_wins_50 (fun H locs hP _ hSS => ?_)
          have hP : va_P g.1 cl_X (mo_V g 3 ks kc rn oc hd hs se bd (nI b) dk dp 1 bo wi sh lf lc mo ah) H := hP
          refine lv_aload_n hx hb dM_wins_53 rfl (lv_at hl 0 rfl) ?_
          refine va_get (D := g.1) (ci := 1) (v := .int 3) (C := "HandTablesModel") (T := T_M) (N := 20) hx hb hts (fun w hw => wd_in (u_inM w hw)) hown hK hP 0 rfl rfl 0 (by decide) (hts _ (wd_in (gw_mem 457 rfl rfl))) (fun _ h => h) rfl dM_wins_54 ?_
          refine lv_if_le (tgt := 62) hx hb dM_wins_57 (by decide) (fun hc6 => ?_) (fun hc6 => ?_)
          · first | exact absurd hc6 (by decide) | exact absurd (by decide) hc6
          refine lv_iconst (v := 0) hx hb dM_wins_60 (by decide) ?_
          exact mm_iret (S := (3, ks, kc, rn, oc, hd, hs, se, bd, (nI b), dk, dp, 1, bo, wi, sh, lf, lc, mo, ah)) hx hb hr hlk dM_wins_61 hP hSS (by exact ⟨by (try simp only [if_pos hc1, if_neg hc2, if_pos hc4, if_pos hc5]) <;> rfl, by (try simp only [if_pos hc1, if_neg hc2, if_pos hc4, if_pos hc5]) <;> rfl⟩)
        · refine lv_aload_n hx hb dM_wins_37 rfl (lv_at hl 0 rfl) ?_
          refine va_get (D := g.1) (ci := 1) (v := .int (nI b)) (C := "HandTablesModel") (T := T_M) (N := 20) hx hb hts (fun w hw => wd_in (u_inM w hw)) hown hK hP 0 rfl rfl 9 (by decide) (hts _ (wd_in (gw_mem 466 rfl rfl))) (fun _ h => h) rfl dM_wins_38 ?_
          refine lv_iconst (v := 3) hx hb dM_wins_41 (by decide) ?_
          refine lv_icmp_ge (tgt := 49) hx hb dM_wins_42 (by decide) (fun hc7 => ?_) (fun hc7 => ?_)
          · refine lv_iconst (v := 0) hx hb dM_wins_49 (by decide) ?_
            refine va_put (D := g.1) (ci := 1) (v := .int 0) (ty := .int) (C := "HandTablesModel") (T := T_M) (N := 20) hx hb hts (fun w hw => wd_in (u_inM w hw)) tf_M tf_M_ok n_M hown hK hP (mo_D hap) hSS 0 rfl rfl 0 (by decide) (hts _ (wd_in (gw_mem 457 rfl rfl))) (fun _ h => h) rfl (by decide +kernel) rfl rfl (Nat.le_of_ble_eq_true rfl) dM_wins_50 (fun H locs hP _ hSS => ?_)
            have hP : va_P g.1 cl_X (mo_V g 0 ks kc rn oc hd hs se bd (nI b) dk dp 1 bo wi sh lf lc mo ah) H := hP
            refine lv_aload_n hx hb dM_wins_53 rfl (lv_at hl 0 rfl) ?_
            refine va_get (D := g.1) (ci := 1) (v := .int 0) (C := "HandTablesModel") (T := T_M) (N := 20) hx hb hts (fun w hw => wd_in (u_inM w hw)) hown hK hP 0 rfl rfl 0 (by decide) (hts _ (wd_in (gw_mem 457 rfl rfl))) (fun _ h => h) rfl dM_wins_54 ?_
            refine lv_if_le (tgt := 62) hx hb dM_wins_57 (by decide) (fun hc8 => ?_) (fun hc8 => ?_)
            rotate_left
            · first | exact absurd hc8 (by decide) | exact absurd (by decide) hc8
            refine lv_aload_n hx hb dM_wins_62 rfl (lv_at hl 0 rfl) ?_
            refine mm_V (cM_countAll_c l g 0 ks kc rn oc hd hs se bd (nI b) dk dp bo wi sh lf lc mo ah hap) rfl kM_M_countAll hS hK hP ⟨Nat.le_of_ble_eq_true rfl, Nat.le_of_ble_eq_true rfl⟩ hl.1 rfl (Nat.le_of_ble_eq_true rfl) ⟨Nat.zero_le _, Nat.zero_le _⟩ dM_wins_63 hSS (fun v9 S9 H locs hR hP hSS => ?_)
            obtain ⟨rfl, rfl⟩ := hR
            have hP : va_P g.1 cl_X (mo_V g 0 ks kc rn oc hd hs se bd (nI b) dk dp 1 bo wi sh lf lc mo ah) H := hP
            refine lv_iload_n hx hb dM_wins_66 rfl (lv_at hl 2 rfl) ?_
            refine lv_if_ne (tgt := 79) hx hb dM_wins_67 (by decide) (fun hc9 => ?_) (fun hc9 => ?_)
            · refine lv_aload_n hx hb dM_wins_79 rfl (lv_at hl 0 rfl) ?_
              refine va_get (D := g.1) (ci := 1) (v := .ref (g.2.2 9)) (C := "HandTablesModel") (T := T_M) (N := 20) hx hb hts (fun w hw => wd_in (u_inM w hw)) hown hK hP 0 rfl rfl 15 (by decide) (hts _ (wd_in (gw_mem 472 rfl rfl))) (fun _ h => h) rfl dM_wins_80 ?_
              refine lv_iload_n hx hb dM_wins_83 rfl (lv_at hl 1 rfl) ?_
              refine va_iald hx hb hK hP 9 0 rfl rfl (k_s2 hc1).2.2 dM_wins_84 ?_
              exact mm_iret (S := (0, ks, kc, rn, oc, hd, hs, se, bd, (nI b), dk, dp, 1, bo, wi, sh, lf, lc, mo, ah)) hx hb hr hlk dM_wins_85 hP hSS (by exact ⟨by (try simp only [if_pos hc1, if_neg hc2, if_pos hc4, if_neg hc5, if_pos hc7, if_neg hc9]) <;> rfl, by (try simp only [if_pos hc1, if_neg hc2, if_pos hc4, if_neg hc5, if_pos hc7, if_neg hc9]) <;> rfl⟩)
            · refine lv_aload_n hx hb dM_wins_70 rfl (lv_at hl 0 rfl) ?_
              refine va_get (D := g.1) (ci := 1) (v := .ref (g.2.2 8)) (C := "HandTablesModel") (T := T_M) (N := 20) hx hb hts (fun w hw => wd_in (u_inM w hw)) hown hK hP 0 rfl rfl 14 (by decide) (hts _ (wd_in (gw_mem 471 rfl rfl))) (fun _ h => h) rfl dM_wins_71 ?_
              refine lv_iload_n hx hb dM_wins_74 rfl (lv_at hl 1 rfl) ?_
              refine va_iald hx hb hK hP 8 0 rfl rfl (k_s2 hc1).2.2 dM_wins_75 ?_
              refine lv_goto (tgt := 85) hx hb dM_wins_76 (by decide) ?_
              exact mm_iret (S := (0, ks, kc, rn, oc, hd, hs, se, bd, (nI b), dk, dp, 1, bo, wi, sh, lf, lc, mo, ah)) hx hb hr hlk dM_wins_85 hP hSS (by exact ⟨by (try simp only [if_pos hc1, if_neg hc2, if_pos hc4, if_neg hc5, if_pos hc7, if_pos hc9]) <;> rfl, by (try simp only [if_pos hc1, if_neg hc2, if_pos hc4, if_neg hc5, if_pos hc7, if_pos hc9]) <;> rfl⟩)
          · refine lv_iconst (v := 3) hx hb dM_wins_45 (by decide) ?_
            refine lv_goto (tgt := 50) hx hb dM_wins_46 (by decide) ?_
            refine va_put (D := g.1) (ci := 1) (v := .int 3) (ty := .int) (C := "HandTablesModel") (T := T_M) (N := 20) hx hb hts (fun w hw => wd_in (u_inM w hw)) tf_M tf_M_ok n_M hown hK hP (mo_D hap) hSS 0 rfl rfl 0 (by decide) (hts _ (wd_in (gw_mem 457 rfl rfl))) (fun _ h => h) rfl (by decide +kernel) rfl rfl (Nat.le_of_ble_eq_true rfl) dM_wins_50 (fun H locs hP _ hSS => ?_)
            have hP : va_P g.1 cl_X (mo_V g 3 ks kc rn oc hd hs se bd (nI b) dk dp 1 bo wi sh lf lc mo ah) H := hP
            refine lv_aload_n hx hb dM_wins_53 rfl (lv_at hl 0 rfl) ?_
            refine va_get (D := g.1) (ci := 1) (v := .int 3) (C := "HandTablesModel") (T := T_M) (N := 20) hx hb hts (fun w hw => wd_in (u_inM w hw)) hown hK hP 0 rfl rfl 0 (by decide) (hts _ (wd_in (gw_mem 457 rfl rfl))) (fun _ h => h) rfl dM_wins_54 ?_
            refine lv_if_le (tgt := 62) hx hb dM_wins_57 (by decide) (fun hc10 => ?_) (fun hc10 => ?_)
            · first | exact absurd hc10 (by decide) | exact absurd (by decide) hc10
            refine lv_iconst (v := 0) hx hb dM_wins_60 (by decide) ?_
            exact mm_iret (S := (3, ks, kc, rn, oc, hd, hs, se, bd, (nI b), dk, dp, 1, bo, wi, sh, lf, lc, mo, ah)) hx hb hr hlk dM_wins_61 hP hSS (by exact ⟨by (try simp only [if_pos hc1, if_neg hc2, if_pos hc4, if_neg hc5, if_neg hc7]) <;> rfl, by (try simp only [if_pos hc1, if_neg hc2, if_pos hc4, if_neg hc5, if_neg hc7]) <;> rfl⟩)
      · refine lv_iconst (v := 2) hx hb dM_wins_21 (by decide) ?_
        refine lv_goto (tgt := 50) hx hb dM_wins_22 (by decide) ?_
        refine va_put (D := g.1) (ci := 1) (v := .int 2) (ty := .int) (C := "HandTablesModel") (T := T_M) (N := 20) hx hb hts (fun w hw => wd_in (u_inM w hw)) tf_M tf_M_ok n_M hown hK hP (mo_D hap) hSS 0 rfl rfl 0 (by decide) (hts _ (wd_in (gw_mem 457 rfl rfl))) (fun _ h => h) rfl (by decide +kernel) rfl rfl (Nat.le_of_ble_eq_true rfl) dM_wins_50 (fun H locs hP _ hSS => ?_)
        have hP : va_P g.1 cl_X (mo_V g 2 ks kc rn oc hd hs se bd (nI b) dk dp 1 bo wi sh lf lc mo ah) H := hP
        refine lv_aload_n hx hb dM_wins_53 rfl (lv_at hl 0 rfl) ?_
        refine va_get (D := g.1) (ci := 1) (v := .int 2) (C := "HandTablesModel") (T := T_M) (N := 20) hx hb hts (fun w hw => wd_in (u_inM w hw)) hown hK hP 0 rfl rfl 0 (by decide) (hts _ (wd_in (gw_mem 457 rfl rfl))) (fun _ h => h) rfl dM_wins_54 ?_
        refine lv_if_le (tgt := 62) hx hb dM_wins_57 (by decide) (fun hc11 => ?_) (fun hc11 => ?_)
        · first | exact absurd hc11 (by decide) | exact absurd (by decide) hc11
        refine lv_iconst (v := 0) hx hb dM_wins_60 (by decide) ?_
        exact mm_iret (S := (2, ks, kc, rn, oc, hd, hs, se, bd, (nI b), dk, dp, 1, bo, wi, sh, lf, lc, mo, ah)) hx hb hr hlk dM_wins_61 hP hSS (by exact ⟨by (try simp only [if_pos hc1, if_neg hc2, if_neg hc4]) <;> rfl, by (try simp only [if_pos hc1, if_neg hc2, if_neg hc4]) <;> rfl⟩)
  · refine lv_iconst (v := 1) hx hb dM_wins_8 (by decide) ?_
    refine lv_goto (tgt := 50) hx hb dM_wins_9 (by decide) ?_
    refine va_put (D := g.1) (ci := 1) (v := .int 1) (ty := .int) (C := "HandTablesModel") (T := T_M) (N := 20) hx hb hts (fun w hw => wd_in (u_inM w hw)) tf_M tf_M_ok n_M hown hK hP (mo_D hap) hSS 0 rfl rfl 0 (by decide) (hts _ (wd_in (gw_mem 457 rfl rfl))) (fun _ h => h) rfl (by decide +kernel) rfl rfl (Nat.le_of_ble_eq_true rfl) dM_wins_50 (fun H locs hP _ hSS => ?_)
    have hP : va_P g.1 cl_X (mo_V g 1 ks kc rn oc hd hs se bd (nI b) dk dp 1 bo wi sh lf lc mo ah) H := hP
    refine lv_aload_n hx hb dM_wins_53 rfl (lv_at hl 0 rfl) ?_
    refine va_get (D := g.1) (ci := 1) (v := .int 1) (C := "HandTablesModel") (T := T_M) (N := 20) hx hb hts (fun w hw => wd_in (u_inM w hw)) hown hK hP 0 rfl rfl 0 (by decide) (hts _ (wd_in (gw_mem 457 rfl rfl))) (fun _ h => h) rfl dM_wins_54 ?_
    refine lv_if_le (tgt := 62) hx hb dM_wins_57 (by decide) (fun hc12 => ?_) (fun hc12 => ?_)
    · first | exact absurd hc12 (by decide) | exact absurd (by decide) hc12
    refine lv_iconst (v := 0) hx hb dM_wins_60 (by decide) ?_
    exact mm_iret (S := (1, ks, kc, rn, oc, hd, hs, se, bd, (nI b), dk, dp, 1, bo, wi, sh, lf, lc, mo, ah)) hx hb hr hlk dM_wins_61 hP hSS (by exact ⟨by (try simp only [if_neg hc1]) <;> rfl, by (try simp only [if_neg hc1]) <;> rfl⟩)
set_option maxHeartbeats 4000000 in
set_option maxRecDepth 100000 in
theorem cM_wins_n (l : Launch) (g : mo_E) (th : Int32) (ks : Nat → Int32) (kc : Int32) (rn : Nat → Int32) (oc : Nat → Int32) (hd : Nat → Int32) (hs : Int32) (se : Nat → Int32) (bd : Nat → Int32) (b : Nat) (dk : Nat → Int32) (dp : Int32) (ct : Int32) (bo : Int32) (wi : Nat → Int32) (sh : Nat → Int32) (lf : Nat → Int32) (lc : Int32) (mo : Int32) (ah : Int32) (q : Int32) (w : Int32)  (hap : mo_ap g) (hb3 : ¬ 3 ≤ nI b) : mm_M l yM_wins bM_wins 3 (some .int) 8 [.ref (g.2.2 0), .int q, .int w] g (th, ks, kc, rn, oc, hd, hs, se, bd, (nI b), dk, dp, ct, bo, wi, sh, lf, lc, mo, ah) (fun v9 S9 => v9 = some (.int 0) ∧ S9 = ((if m_noSeat q = 0 then (if w < 0 then 2 else if w ≤ 1 then 3 else 2) else 1), ks, kc, rn, oc, hd, hs, se, bd, (nI b), dk, dp, ct, bo, wi, sh, lf, lc, mo, ah)) := by
  refine Met.ofW (cc := bM_wins) (maxL := 3) (ret := (some .int)) (by decide) rfl ?_
  intro p e s m args below meth c s₁ BB hml hv
  obtain ⟨rfl, hB⟩ := hv
  have hx := BB.exec
  have hb := BB.bytes
  have hr := BB.returns
  have hlk := BB.notSynchronized
  have hts := atoms_spec (ws := wd yM_wins bM_wins 3 (some .int)) BB.pre
  have hown : s.vm.findClass "HandTablesModel" = some m.cls := findClass_of_methodNamed BB.named
  have hS : CallFix p m c bM_wins 3 s _ (wd yM_wins bM_wins 3 (some .int)) "HandTablesModel" := ⟨hx, hb, hml, hown, hts⟩
  obtain ⟨hP, hK⟩ := hB
  have hP : va_P g.1 cl_X (mo_V g th ks kc rn oc hd hs se bd (nI b) dk dp ct bo wi sh lf lc mo ah) s.heap := hP
  have hSS : va_S (mo_fr g) s.heap s.heap [] := va_S.rf
  have hl := lv_entry ([.ref (g.2.2 0), .int q, .int w]) (n := 3) (Nat.le_of_ble_eq_true rfl)
  rw [lg_entry_eq]
  generalize (lg_sl ([.ref (g.2.2 0), .int q, .int w]) ++ List.replicate (3 - (lg_sl ([.ref (g.2.2 0), .int q, .int w])).length) Slot.unset).toArray = ls at hl ⊢
  have hl : lv_has ls 3 [(0, .ref (g.2.2 0)), (1, .int q), (2, .int w)] := hl
  obtain ⟨H, eH⟩ : ∃ H, s.heap = H := ⟨_, rfl⟩
  obtain ⟨locs, eL⟩ : ∃ L, ([] : List Loc) = L := ⟨_, rfl⟩
  have hP : va_P g.1 cl_X (mo_V g th ks kc rn oc hd hs se bd (nI b) dk dp ct bo wi sh lf lc mo ah) H := by rw [← eH]; exact hP
  have hSS : va_S (mo_fr g) s.heap H locs := by rw [← eH, ← eL]; exact hSS
  refine mm_go eH eL ?_
  clear eH eL
  refine lv_aload_n hx hb dM_wins_0 rfl (lv_at hl 0 rfl) ?_
  refine lv_iload_n hx hb dM_wins_1 rfl (lv_at hl 1 rfl) ?_
  refine pu_SH (cM_noSeat l _) rfl kM_M_noSeat hS ⟨Nat.le_of_ble_eq_true rfl, Nat.le_of_ble_eq_true rfl⟩ hl.1 rfl (Nat.le_of_ble_eq_true rfl) ⟨Nat.zero_le _, Nat.zero_le _⟩ dM_wins_2 ?_
  refine lv_if_eq (tgt := 12) hx hb dM_wins_5 (by decide) (fun hc1 => ?_) (fun hc1 => ?_)
  · refine lv_iload_n hx hb dM_wins_12 rfl (lv_at hl 2 rfl) ?_
    refine lv_if_lt (tgt := 21) hx hb dM_wins_13 (by decide) (fun hc2 => ?_) (fun hc2 => ?_)
    · refine lv_iconst (v := 2) hx hb dM_wins_21 (by decide) ?_
      refine lv_goto (tgt := 50) hx hb dM_wins_22 (by decide) ?_
      refine va_put (D := g.1) (ci := 1) (v := .int 2) (ty := .int) (C := "HandTablesModel") (T := T_M) (N := 20) hx hb hts (fun w hw => wd_in (u_inM w hw)) tf_M tf_M_ok n_M hown hK hP (mo_D hap) hSS 0 rfl rfl 0 (by decide) (hts _ (wd_in (gw_mem 457 rfl rfl))) (fun _ h => h) rfl (by decide +kernel) rfl rfl (Nat.le_of_ble_eq_true rfl) dM_wins_50 (fun H locs hP _ hSS => ?_)
      have hP : va_P g.1 cl_X (mo_V g 2 ks kc rn oc hd hs se bd (nI b) dk dp ct bo wi sh lf lc mo ah) H := hP
      refine lv_aload_n hx hb dM_wins_53 rfl (lv_at hl 0 rfl) ?_
      refine va_get (D := g.1) (ci := 1) (v := .int 2) (C := "HandTablesModel") (T := T_M) (N := 20) hx hb hts (fun w hw => wd_in (u_inM w hw)) hown hK hP 0 rfl rfl 0 (by decide) (hts _ (wd_in (gw_mem 457 rfl rfl))) (fun _ h => h) rfl dM_wins_54 ?_
      refine lv_if_le (tgt := 62) hx hb dM_wins_57 (by decide) (fun hc3 => ?_) (fun hc3 => ?_)
      · first | exact absurd hc3 (by decide) | exact absurd (by decide) hc3
      refine lv_iconst (v := 0) hx hb dM_wins_60 (by decide) ?_
      exact mm_iret (S := (2, ks, kc, rn, oc, hd, hs, se, bd, (nI b), dk, dp, ct, bo, wi, sh, lf, lc, mo, ah)) hx hb hr hlk dM_wins_61 hP hSS (by exact ⟨by (try simp only [if_pos hc1, if_pos hc2]) <;> rfl, by (try simp only [if_pos hc1, if_pos hc2]) <;> rfl⟩)
    · refine lv_iload_n hx hb dM_wins_16 rfl (lv_at hl 2 rfl) ?_
      refine lv_iconst (v := 1) hx hb dM_wins_17 (by decide) ?_
      refine lv_icmp_le (tgt := 25) hx hb dM_wins_18 (by decide) (fun hc4 => ?_) (fun hc4 => ?_)
      · refine lv_aload_n hx hb dM_wins_25 rfl (lv_at hl 0 rfl) ?_
        refine va_get (D := g.1) (ci := 1) (v := .ref (g.2.2 5)) (C := "HandTablesModel") (T := T_M) (N := 20) hx hb hts (fun w hw => wd_in (u_inM w hw)) hown hK hP 0 rfl rfl 7 (by decide) (hts _ (wd_in (gw_mem 464 rfl rfl))) (fun _ h => h) rfl dM_wins_26 ?_
        refine lv_iconst (v := 2) hx hb dM_wins_29 (by decide) ?_
        refine lv_iload_n hx hb dM_wins_30 rfl (lv_at hl 1 rfl) ?_
        refine lv_imul hx hb dM_wins_31 ?_
        refine va_iald hx hb hK hP 5 0 rfl rfl (k_s2 hc1).1 dM_wins_32 ?_
        refine lv_iconst (v := (-1)) hx hb dM_wins_33 (by decide) ?_
        refine lv_icmp_eq (tgt := 45) hx hb dM_wins_34 (by decide) (fun hc5 => ?_) (fun hc5 => ?_)
        · refine lv_iconst (v := 3) hx hb dM_wins_45 (by decide) ?_
          refine lv_goto (tgt := 50) hx hb dM_wins_46 (by decide) ?_
          refine va_put (D := g.1) (ci := 1) (v := .int 3) (ty := .int) (C := "HandTablesModel") (T := T_M) (N := 20) hx hb hts (fun w hw => wd_in (u_inM w hw)) tf_M tf_M_ok n_M hown hK hP (mo_D hap) hSS 0 rfl rfl 0 (by decide) (hts _ (wd_in (gw_mem 457 rfl rfl))) (fun _ h => h) rfl (by decide +kernel) rfl rfl (Nat.le_of_ble_eq_true rfl) dM_wins_50 (fun H locs hP _ hSS => ?_)
          have hP : va_P g.1 cl_X (mo_V g 3 ks kc rn oc hd hs se bd (nI b) dk dp ct bo wi sh lf lc mo ah) H := hP
          refine lv_aload_n hx hb dM_wins_53 rfl (lv_at hl 0 rfl) ?_
          refine va_get (D := g.1) (ci := 1) (v := .int 3) (C := "HandTablesModel") (T := T_M) (N := 20) hx hb hts (fun w hw => wd_in (u_inM w hw)) hown hK hP 0 rfl rfl 0 (by decide) (hts _ (wd_in (gw_mem 457 rfl rfl))) (fun _ h => h) rfl dM_wins_54 ?_
          refine lv_if_le (tgt := 62) hx hb dM_wins_57 (by decide) (fun hc6 => ?_) (fun hc6 => ?_)
          · first | exact absurd hc6 (by decide) | exact absurd (by decide) hc6
          refine lv_iconst (v := 0) hx hb dM_wins_60 (by decide) ?_
          exact mm_iret (S := (3, ks, kc, rn, oc, hd, hs, se, bd, (nI b), dk, dp, ct, bo, wi, sh, lf, lc, mo, ah)) hx hb hr hlk dM_wins_61 hP hSS (by exact ⟨by (try simp only [if_pos hc1, if_neg hc2, if_pos hc4, if_pos hc5]) <;> rfl, by (try simp only [if_pos hc1, if_neg hc2, if_pos hc4, if_pos hc5]) <;> rfl⟩)
        · refine lv_aload_n hx hb dM_wins_37 rfl (lv_at hl 0 rfl) ?_
          refine va_get (D := g.1) (ci := 1) (v := .int (nI b)) (C := "HandTablesModel") (T := T_M) (N := 20) hx hb hts (fun w hw => wd_in (u_inM w hw)) hown hK hP 0 rfl rfl 9 (by decide) (hts _ (wd_in (gw_mem 466 rfl rfl))) (fun _ h => h) rfl dM_wins_38 ?_
          refine lv_iconst (v := 3) hx hb dM_wins_41 (by decide) ?_
          refine lv_icmp_ge (tgt := 49) hx hb dM_wins_42 (by decide) (fun hc7 => ?_) (fun hc7 => ?_)
          · exact absurd hc7 hb3
          · refine lv_iconst (v := 3) hx hb dM_wins_45 (by decide) ?_
            refine lv_goto (tgt := 50) hx hb dM_wins_46 (by decide) ?_
            refine va_put (D := g.1) (ci := 1) (v := .int 3) (ty := .int) (C := "HandTablesModel") (T := T_M) (N := 20) hx hb hts (fun w hw => wd_in (u_inM w hw)) tf_M tf_M_ok n_M hown hK hP (mo_D hap) hSS 0 rfl rfl 0 (by decide) (hts _ (wd_in (gw_mem 457 rfl rfl))) (fun _ h => h) rfl (by decide +kernel) rfl rfl (Nat.le_of_ble_eq_true rfl) dM_wins_50 (fun H locs hP _ hSS => ?_)
            have hP : va_P g.1 cl_X (mo_V g 3 ks kc rn oc hd hs se bd (nI b) dk dp ct bo wi sh lf lc mo ah) H := hP
            refine lv_aload_n hx hb dM_wins_53 rfl (lv_at hl 0 rfl) ?_
            refine va_get (D := g.1) (ci := 1) (v := .int 3) (C := "HandTablesModel") (T := T_M) (N := 20) hx hb hts (fun w hw => wd_in (u_inM w hw)) hown hK hP 0 rfl rfl 0 (by decide) (hts _ (wd_in (gw_mem 457 rfl rfl))) (fun _ h => h) rfl dM_wins_54 ?_
            refine lv_if_le (tgt := 62) hx hb dM_wins_57 (by decide) (fun hc8 => ?_) (fun hc8 => ?_)
            · first | exact absurd hc8 (by decide) | exact absurd (by decide) hc8
            refine lv_iconst (v := 0) hx hb dM_wins_60 (by decide) ?_
            exact mm_iret (S := (3, ks, kc, rn, oc, hd, hs, se, bd, (nI b), dk, dp, ct, bo, wi, sh, lf, lc, mo, ah)) hx hb hr hlk dM_wins_61 hP hSS (by exact ⟨by (try simp only [if_pos hc1, if_neg hc2, if_pos hc4, if_neg hc5]) <;> rfl, by (try simp only [if_pos hc1, if_neg hc2, if_pos hc4, if_neg hc5]) <;> rfl⟩)
      · refine lv_iconst (v := 2) hx hb dM_wins_21 (by decide) ?_
        refine lv_goto (tgt := 50) hx hb dM_wins_22 (by decide) ?_
        refine va_put (D := g.1) (ci := 1) (v := .int 2) (ty := .int) (C := "HandTablesModel") (T := T_M) (N := 20) hx hb hts (fun w hw => wd_in (u_inM w hw)) tf_M tf_M_ok n_M hown hK hP (mo_D hap) hSS 0 rfl rfl 0 (by decide) (hts _ (wd_in (gw_mem 457 rfl rfl))) (fun _ h => h) rfl (by decide +kernel) rfl rfl (Nat.le_of_ble_eq_true rfl) dM_wins_50 (fun H locs hP _ hSS => ?_)
        have hP : va_P g.1 cl_X (mo_V g 2 ks kc rn oc hd hs se bd (nI b) dk dp ct bo wi sh lf lc mo ah) H := hP
        refine lv_aload_n hx hb dM_wins_53 rfl (lv_at hl 0 rfl) ?_
        refine va_get (D := g.1) (ci := 1) (v := .int 2) (C := "HandTablesModel") (T := T_M) (N := 20) hx hb hts (fun w hw => wd_in (u_inM w hw)) hown hK hP 0 rfl rfl 0 (by decide) (hts _ (wd_in (gw_mem 457 rfl rfl))) (fun _ h => h) rfl dM_wins_54 ?_
        refine lv_if_le (tgt := 62) hx hb dM_wins_57 (by decide) (fun hc9 => ?_) (fun hc9 => ?_)
        · first | exact absurd hc9 (by decide) | exact absurd (by decide) hc9
        refine lv_iconst (v := 0) hx hb dM_wins_60 (by decide) ?_
        exact mm_iret (S := (2, ks, kc, rn, oc, hd, hs, se, bd, (nI b), dk, dp, ct, bo, wi, sh, lf, lc, mo, ah)) hx hb hr hlk dM_wins_61 hP hSS (by exact ⟨by (try simp only [if_pos hc1, if_neg hc2, if_neg hc4]) <;> rfl, by (try simp only [if_pos hc1, if_neg hc2, if_neg hc4]) <;> rfl⟩)
  · refine lv_iconst (v := 1) hx hb dM_wins_8 (by decide) ?_
    refine lv_goto (tgt := 50) hx hb dM_wins_9 (by decide) ?_
    refine va_put (D := g.1) (ci := 1) (v := .int 1) (ty := .int) (C := "HandTablesModel") (T := T_M) (N := 20) hx hb hts (fun w hw => wd_in (u_inM w hw)) tf_M tf_M_ok n_M hown hK hP (mo_D hap) hSS 0 rfl rfl 0 (by decide) (hts _ (wd_in (gw_mem 457 rfl rfl))) (fun _ h => h) rfl (by decide +kernel) rfl rfl (Nat.le_of_ble_eq_true rfl) dM_wins_50 (fun H locs hP _ hSS => ?_)
    have hP : va_P g.1 cl_X (mo_V g 1 ks kc rn oc hd hs se bd (nI b) dk dp ct bo wi sh lf lc mo ah) H := hP
    refine lv_aload_n hx hb dM_wins_53 rfl (lv_at hl 0 rfl) ?_
    refine va_get (D := g.1) (ci := 1) (v := .int 1) (C := "HandTablesModel") (T := T_M) (N := 20) hx hb hts (fun w hw => wd_in (u_inM w hw)) hown hK hP 0 rfl rfl 0 (by decide) (hts _ (wd_in (gw_mem 457 rfl rfl))) (fun _ h => h) rfl dM_wins_54 ?_
    refine lv_if_le (tgt := 62) hx hb dM_wins_57 (by decide) (fun hc10 => ?_) (fun hc10 => ?_)
    · first | exact absurd hc10 (by decide) | exact absurd (by decide) hc10
    refine lv_iconst (v := 0) hx hb dM_wins_60 (by decide) ?_
    exact mm_iret (S := (1, ks, kc, rn, oc, hd, hs, se, bd, (nI b), dk, dp, ct, bo, wi, sh, lf, lc, mo, ah)) hx hb hr hlk dM_wins_61 hP hSS (by exact ⟨by (try simp only [if_neg hc1]) <;> rfl, by (try simp only [if_neg hc1]) <;> rfl⟩)
set_option maxHeartbeats 4000000 in
set_option maxRecDepth 100000 in
theorem cM_wins_5 (l : Launch) (g : mo_E) (th : Int32) (ks : Nat → Int32) (kc : Int32) (rn : Nat → Int32) (oc : Nat → Int32) (hd : Nat → Int32) (hs : Int32) (se : Nat → Int32) (bd : Nat → Int32) (dk : Nat → Int32) (dp : Int32) (bo : Int32) (wi : Nat → Int32) (sh : Nat → Int32) (lf : Nat → Int32) (lc : Int32) (mo : Int32) (ah : Int32) (q : Int32) (w : Int32)  (hap : mo_ap g) (hbd : ∀ i, i < 5 → vp_in (bd i) 52) (hse : k_hse se) : mm_M l yM_wins bM_wins 3 (some .int) 8 [.ref (g.2.2 0), .int q, .int w] g (th, ks, kc, rn, oc, hd, hs, se, bd, (nI 5), dk, dp, 0, bo, wi, sh, lf, lc, mo, ah) (fun v9 S9 => v9 = some (.int (if m_noSeat q = 0 then (if w < 0 then 0 else if w ≤ 1 then (if se (2 * q).toNatClampNeg = -1 then 0 else (if w = 0 then (k_all se bd 5 lf wi sh).1 q.toNatClampNeg else (k_all se bd 5 lf wi sh).2 q.toNatClampNeg)) else 0) else 0)) ∧ ∃ (rn' : Nat → Int32) (oc' : Nat → Int32) (hd' : Nat → Int32) (hs' : Int32) (mo' : Int32) (ah' : Int32) (bo' : Int32) (lf' : Nat → Int32) (lc' : Int32), S9 = ((if m_noSeat q = 0 then (if w < 0 then 2 else if w ≤ 1 then (if se (2 * q).toNatClampNeg = -1 then 3 else 0) else 2) else 1), ks, kc, rn', oc', hd', hs', se, bd, (nI 5), dk, dp, (if (if m_noSeat q = 0 then (if w < 0 then 2 else if w ≤ 1 then (if se (2 * q).toNatClampNeg = -1 then 3 else 0) else 2) else 1) = 0 then 1 else 0), bo', (if (if m_noSeat q = 0 then (if w < 0 then 2 else if w ≤ 1 then (if se (2 * q).toNatClampNeg = -1 then 3 else 0) else 2) else 1) = 0 then (k_all se bd 5 lf wi sh).1 else wi), (if (if m_noSeat q = 0 then (if w < 0 then 2 else if w ≤ 1 then (if se (2 * q).toNatClampNeg = -1 then 3 else 0) else 2) else 1) = 0 then (k_all se bd 5 lf wi sh).2 else sh), lf', lc', mo', ah')) := by
  refine Met.ofW (cc := bM_wins) (maxL := 3) (ret := (some .int)) (by decide) rfl ?_
  intro p e s m args below meth c s₁ BB hml hv
  obtain ⟨rfl, hB⟩ := hv
  have hx := BB.exec
  have hb := BB.bytes
  have hr := BB.returns
  have hlk := BB.notSynchronized
  have hts := atoms_spec (ws := wd yM_wins bM_wins 3 (some .int)) BB.pre
  have hown : s.vm.findClass "HandTablesModel" = some m.cls := findClass_of_methodNamed BB.named
  have hS : CallFix p m c bM_wins 3 s _ (wd yM_wins bM_wins 3 (some .int)) "HandTablesModel" := ⟨hx, hb, hml, hown, hts⟩
  obtain ⟨hP, hK⟩ := hB
  have hP : va_P g.1 cl_X (mo_V g th ks kc rn oc hd hs se bd (nI 5) dk dp 0 bo wi sh lf lc mo ah) s.heap := hP
  have hSS : va_S (mo_fr g) s.heap s.heap [] := va_S.rf
  have hl := lv_entry ([.ref (g.2.2 0), .int q, .int w]) (n := 3) (Nat.le_of_ble_eq_true rfl)
  rw [lg_entry_eq]
  generalize (lg_sl ([.ref (g.2.2 0), .int q, .int w]) ++ List.replicate (3 - (lg_sl ([.ref (g.2.2 0), .int q, .int w])).length) Slot.unset).toArray = ls at hl ⊢
  have hl : lv_has ls 3 [(0, .ref (g.2.2 0)), (1, .int q), (2, .int w)] := hl
  obtain ⟨H, eH⟩ : ∃ H, s.heap = H := ⟨_, rfl⟩
  obtain ⟨locs, eL⟩ : ∃ L, ([] : List Loc) = L := ⟨_, rfl⟩
  have hP : va_P g.1 cl_X (mo_V g th ks kc rn oc hd hs se bd (nI 5) dk dp 0 bo wi sh lf lc mo ah) H := by rw [← eH]; exact hP
  have hSS : va_S (mo_fr g) s.heap H locs := by rw [← eH, ← eL]; exact hSS
  refine mm_go eH eL ?_
  clear eH eL
  refine lv_aload_n hx hb dM_wins_0 rfl (lv_at hl 0 rfl) ?_
  refine lv_iload_n hx hb dM_wins_1 rfl (lv_at hl 1 rfl) ?_
  refine pu_SH (cM_noSeat l _) rfl kM_M_noSeat hS ⟨Nat.le_of_ble_eq_true rfl, Nat.le_of_ble_eq_true rfl⟩ hl.1 rfl (Nat.le_of_ble_eq_true rfl) ⟨Nat.zero_le _, Nat.zero_le _⟩ dM_wins_2 ?_
  refine lv_if_eq (tgt := 12) hx hb dM_wins_5 (by decide) (fun hc1 => ?_) (fun hc1 => ?_)
  · refine lv_iload_n hx hb dM_wins_12 rfl (lv_at hl 2 rfl) ?_
    refine lv_if_lt (tgt := 21) hx hb dM_wins_13 (by decide) (fun hc2 => ?_) (fun hc2 => ?_)
    · refine lv_iconst (v := 2) hx hb dM_wins_21 (by decide) ?_
      refine lv_goto (tgt := 50) hx hb dM_wins_22 (by decide) ?_
      refine va_put (D := g.1) (ci := 1) (v := .int 2) (ty := .int) (C := "HandTablesModel") (T := T_M) (N := 20) hx hb hts (fun w hw => wd_in (u_inM w hw)) tf_M tf_M_ok n_M hown hK hP (mo_D hap) hSS 0 rfl rfl 0 (by decide) (hts _ (wd_in (gw_mem 457 rfl rfl))) (fun _ h => h) rfl (by decide +kernel) rfl rfl (Nat.le_of_ble_eq_true rfl) dM_wins_50 (fun H locs hP _ hSS => ?_)
      have hP : va_P g.1 cl_X (mo_V g 2 ks kc rn oc hd hs se bd (nI 5) dk dp 0 bo wi sh lf lc mo ah) H := hP
      refine lv_aload_n hx hb dM_wins_53 rfl (lv_at hl 0 rfl) ?_
      refine va_get (D := g.1) (ci := 1) (v := .int 2) (C := "HandTablesModel") (T := T_M) (N := 20) hx hb hts (fun w hw => wd_in (u_inM w hw)) hown hK hP 0 rfl rfl 0 (by decide) (hts _ (wd_in (gw_mem 457 rfl rfl))) (fun _ h => h) rfl dM_wins_54 ?_
      refine lv_if_le (tgt := 62) hx hb dM_wins_57 (by decide) (fun hc3 => ?_) (fun hc3 => ?_)
      · first | exact absurd hc3 (by decide) | exact absurd (by decide) hc3
      refine lv_iconst (v := 0) hx hb dM_wins_60 (by decide) ?_
      exact mm_iret (S := (2, ks, kc, rn, oc, hd, hs, se, bd, (nI 5), dk, dp, 0, bo, wi, sh, lf, lc, mo, ah)) hx hb hr hlk dM_wins_61 hP hSS (by exact ⟨by (try simp only [if_pos hc1, if_pos hc2]) <;> rfl, rn, oc, hd, hs, mo, ah, bo, lf, lc, by (try simp only [if_pos hc1, if_pos hc2]) <;> rfl⟩)
    · refine lv_iload_n hx hb dM_wins_16 rfl (lv_at hl 2 rfl) ?_
      refine lv_iconst (v := 1) hx hb dM_wins_17 (by decide) ?_
      refine lv_icmp_le (tgt := 25) hx hb dM_wins_18 (by decide) (fun hc4 => ?_) (fun hc4 => ?_)
      · refine lv_aload_n hx hb dM_wins_25 rfl (lv_at hl 0 rfl) ?_
        refine va_get (D := g.1) (ci := 1) (v := .ref (g.2.2 5)) (C := "HandTablesModel") (T := T_M) (N := 20) hx hb hts (fun w hw => wd_in (u_inM w hw)) hown hK hP 0 rfl rfl 7 (by decide) (hts _ (wd_in (gw_mem 464 rfl rfl))) (fun _ h => h) rfl dM_wins_26 ?_
        refine lv_iconst (v := 2) hx hb dM_wins_29 (by decide) ?_
        refine lv_iload_n hx hb dM_wins_30 rfl (lv_at hl 1 rfl) ?_
        refine lv_imul hx hb dM_wins_31 ?_
        refine va_iald hx hb hK hP 5 0 rfl rfl (k_s2 hc1).1 dM_wins_32 ?_
        refine lv_iconst (v := (-1)) hx hb dM_wins_33 (by decide) ?_
        refine lv_icmp_eq (tgt := 45) hx hb dM_wins_34 (by decide) (fun hc5 => ?_) (fun hc5 => ?_)
        · refine lv_iconst (v := 3) hx hb dM_wins_45 (by decide) ?_
          refine lv_goto (tgt := 50) hx hb dM_wins_46 (by decide) ?_
          refine va_put (D := g.1) (ci := 1) (v := .int 3) (ty := .int) (C := "HandTablesModel") (T := T_M) (N := 20) hx hb hts (fun w hw => wd_in (u_inM w hw)) tf_M tf_M_ok n_M hown hK hP (mo_D hap) hSS 0 rfl rfl 0 (by decide) (hts _ (wd_in (gw_mem 457 rfl rfl))) (fun _ h => h) rfl (by decide +kernel) rfl rfl (Nat.le_of_ble_eq_true rfl) dM_wins_50 (fun H locs hP _ hSS => ?_)
          have hP : va_P g.1 cl_X (mo_V g 3 ks kc rn oc hd hs se bd (nI 5) dk dp 0 bo wi sh lf lc mo ah) H := hP
          refine lv_aload_n hx hb dM_wins_53 rfl (lv_at hl 0 rfl) ?_
          refine va_get (D := g.1) (ci := 1) (v := .int 3) (C := "HandTablesModel") (T := T_M) (N := 20) hx hb hts (fun w hw => wd_in (u_inM w hw)) hown hK hP 0 rfl rfl 0 (by decide) (hts _ (wd_in (gw_mem 457 rfl rfl))) (fun _ h => h) rfl dM_wins_54 ?_
          refine lv_if_le (tgt := 62) hx hb dM_wins_57 (by decide) (fun hc6 => ?_) (fun hc6 => ?_)
          · first | exact absurd hc6 (by decide) | exact absurd (by decide) hc6
          refine lv_iconst (v := 0) hx hb dM_wins_60 (by decide) ?_
          exact mm_iret (S := (3, ks, kc, rn, oc, hd, hs, se, bd, (nI 5), dk, dp, 0, bo, wi, sh, lf, lc, mo, ah)) hx hb hr hlk dM_wins_61 hP hSS (by exact ⟨by (try simp only [if_pos hc1, if_neg hc2, if_pos hc4, if_pos hc5]) <;> rfl, rn, oc, hd, hs, mo, ah, bo, lf, lc, by (try simp only [if_pos hc1, if_neg hc2, if_pos hc4, if_pos hc5]) <;> rfl⟩)
        · refine lv_aload_n hx hb dM_wins_37 rfl (lv_at hl 0 rfl) ?_
          refine va_get (D := g.1) (ci := 1) (v := .int (nI 5)) (C := "HandTablesModel") (T := T_M) (N := 20) hx hb hts (fun w hw => wd_in (u_inM w hw)) hown hK hP 0 rfl rfl 9 (by decide) (hts _ (wd_in (gw_mem 466 rfl rfl))) (fun _ h => h) rfl dM_wins_38 ?_
          refine lv_iconst (v := 3) hx hb dM_wins_41 (by decide) ?_
          refine lv_icmp_ge (tgt := 49) hx hb dM_wins_42 (by decide) (fun hc7 => ?_) (fun hc7 => ?_)
          rotate_left
          · first | exact absurd hc7 (by decide) | exact absurd (by decide) hc7
          refine lv_iconst (v := 0) hx hb dM_wins_49 (by decide) ?_
          refine va_put (D := g.1) (ci := 1) (v := .int 0) (ty := .int) (C := "HandTablesModel") (T := T_M) (N := 20) hx hb hts (fun w hw => wd_in (u_inM w hw)) tf_M tf_M_ok n_M hown hK hP (mo_D hap) hSS 0 rfl rfl 0 (by decide) (hts _ (wd_in (gw_mem 457 rfl rfl))) (fun _ h => h) rfl (by decide +kernel) rfl rfl (Nat.le_of_ble_eq_true rfl) dM_wins_50 (fun H locs hP _ hSS => ?_)
          have hP : va_P g.1 cl_X (mo_V g 0 ks kc rn oc hd hs se bd (nI 5) dk dp 0 bo wi sh lf lc mo ah) H := hP
          refine lv_aload_n hx hb dM_wins_53 rfl (lv_at hl 0 rfl) ?_
          refine va_get (D := g.1) (ci := 1) (v := .int 0) (C := "HandTablesModel") (T := T_M) (N := 20) hx hb hts (fun w hw => wd_in (u_inM w hw)) hown hK hP 0 rfl rfl 0 (by decide) (hts _ (wd_in (gw_mem 457 rfl rfl))) (fun _ h => h) rfl dM_wins_54 ?_
          refine lv_if_le (tgt := 62) hx hb dM_wins_57 (by decide) (fun hc8 => ?_) (fun hc8 => ?_)
          rotate_left
          · first | exact absurd hc8 (by decide) | exact absurd (by decide) hc8
          refine lv_aload_n hx hb dM_wins_62 rfl (lv_at hl 0 rfl) ?_
          refine mm_V (cM_countAll_5 l g 0 ks kc rn oc hd hs se bd dk dp bo wi sh lf lc mo ah hap hbd hse) rfl kM_M_countAll hS hK hP ⟨Nat.le_of_ble_eq_true rfl, Nat.le_of_ble_eq_true rfl⟩ hl.1 rfl (Nat.le_of_ble_eq_true rfl) ⟨Nat.zero_le _, Nat.zero_le _⟩ dM_wins_63 hSS (fun v9 S9 H locs hR hP hSS => ?_)
          obtain ⟨rfl, rn9, oc10, hd11, hs12, mo13, ah14, bo15, lf16, lc17, rfl⟩ := hR
          have hP : va_P g.1 cl_X (mo_V g 0 ks kc rn9 oc10 hd11 hs12 se bd (nI 5) dk dp 1 bo15 ((k_all se bd 5 lf wi sh).1) ((k_all se bd 5 lf wi sh).2) lf16 lc17 mo13 ah14) H := hP
          refine lv_iload_n hx hb dM_wins_66 rfl (lv_at hl 2 rfl) ?_
          refine lv_if_ne (tgt := 79) hx hb dM_wins_67 (by decide) (fun hc18 => ?_) (fun hc18 => ?_)
          · refine lv_aload_n hx hb dM_wins_79 rfl (lv_at hl 0 rfl) ?_
            refine va_get (D := g.1) (ci := 1) (v := .ref (g.2.2 9)) (C := "HandTablesModel") (T := T_M) (N := 20) hx hb hts (fun w hw => wd_in (u_inM w hw)) hown hK hP 0 rfl rfl 15 (by decide) (hts _ (wd_in (gw_mem 472 rfl rfl))) (fun _ h => h) rfl dM_wins_80 ?_
            refine lv_iload_n hx hb dM_wins_83 rfl (lv_at hl 1 rfl) ?_
            refine va_iald hx hb hK hP 9 0 rfl rfl (k_s2 hc1).2.2 dM_wins_84 ?_
            exact mm_iret (S := (0, ks, kc, rn9, oc10, hd11, hs12, se, bd, (nI 5), dk, dp, 1, bo15, (k_all se bd 5 lf wi sh).1, (k_all se bd 5 lf wi sh).2, lf16, lc17, mo13, ah14)) hx hb hr hlk dM_wins_85 hP hSS (by exact ⟨by (try simp only [if_pos hc1, if_neg hc2, if_pos hc4, if_neg hc5, if_neg hc18]) <;> rfl, rn9, oc10, hd11, hs12, mo13, ah14, bo15, lf16, lc17, by (try simp only [if_pos hc1, if_neg hc2, if_pos hc4, if_neg hc5, if_neg hc18]) <;> rfl⟩)
          · refine lv_aload_n hx hb dM_wins_70 rfl (lv_at hl 0 rfl) ?_
            refine va_get (D := g.1) (ci := 1) (v := .ref (g.2.2 8)) (C := "HandTablesModel") (T := T_M) (N := 20) hx hb hts (fun w hw => wd_in (u_inM w hw)) hown hK hP 0 rfl rfl 14 (by decide) (hts _ (wd_in (gw_mem 471 rfl rfl))) (fun _ h => h) rfl dM_wins_71 ?_
            refine lv_iload_n hx hb dM_wins_74 rfl (lv_at hl 1 rfl) ?_
            refine va_iald hx hb hK hP 8 0 rfl rfl (k_s2 hc1).2.2 dM_wins_75 ?_
            refine lv_goto (tgt := 85) hx hb dM_wins_76 (by decide) ?_
            exact mm_iret (S := (0, ks, kc, rn9, oc10, hd11, hs12, se, bd, (nI 5), dk, dp, 1, bo15, (k_all se bd 5 lf wi sh).1, (k_all se bd 5 lf wi sh).2, lf16, lc17, mo13, ah14)) hx hb hr hlk dM_wins_85 hP hSS (by exact ⟨by (try simp only [if_pos hc1, if_neg hc2, if_pos hc4, if_neg hc5, if_pos hc18]) <;> rfl, rn9, oc10, hd11, hs12, mo13, ah14, bo15, lf16, lc17, by (try simp only [if_pos hc1, if_neg hc2, if_pos hc4, if_neg hc5, if_pos hc18]) <;> rfl⟩)
      · refine lv_iconst (v := 2) hx hb dM_wins_21 (by decide) ?_
        refine lv_goto (tgt := 50) hx hb dM_wins_22 (by decide) ?_
        refine va_put (D := g.1) (ci := 1) (v := .int 2) (ty := .int) (C := "HandTablesModel") (T := T_M) (N := 20) hx hb hts (fun w hw => wd_in (u_inM w hw)) tf_M tf_M_ok n_M hown hK hP (mo_D hap) hSS 0 rfl rfl 0 (by decide) (hts _ (wd_in (gw_mem 457 rfl rfl))) (fun _ h => h) rfl (by decide +kernel) rfl rfl (Nat.le_of_ble_eq_true rfl) dM_wins_50 (fun H locs hP _ hSS => ?_)
        have hP : va_P g.1 cl_X (mo_V g 2 ks kc rn oc hd hs se bd (nI 5) dk dp 0 bo wi sh lf lc mo ah) H := hP
        refine lv_aload_n hx hb dM_wins_53 rfl (lv_at hl 0 rfl) ?_
        refine va_get (D := g.1) (ci := 1) (v := .int 2) (C := "HandTablesModel") (T := T_M) (N := 20) hx hb hts (fun w hw => wd_in (u_inM w hw)) hown hK hP 0 rfl rfl 0 (by decide) (hts _ (wd_in (gw_mem 457 rfl rfl))) (fun _ h => h) rfl dM_wins_54 ?_
        refine lv_if_le (tgt := 62) hx hb dM_wins_57 (by decide) (fun hc19 => ?_) (fun hc19 => ?_)
        · first | exact absurd hc19 (by decide) | exact absurd (by decide) hc19
        refine lv_iconst (v := 0) hx hb dM_wins_60 (by decide) ?_
        exact mm_iret (S := (2, ks, kc, rn, oc, hd, hs, se, bd, (nI 5), dk, dp, 0, bo, wi, sh, lf, lc, mo, ah)) hx hb hr hlk dM_wins_61 hP hSS (by exact ⟨by (try simp only [if_pos hc1, if_neg hc2, if_neg hc4]) <;> rfl, rn, oc, hd, hs, mo, ah, bo, lf, lc, by (try simp only [if_pos hc1, if_neg hc2, if_neg hc4]) <;> rfl⟩)
  · refine lv_iconst (v := 1) hx hb dM_wins_8 (by decide) ?_
    refine lv_goto (tgt := 50) hx hb dM_wins_9 (by decide) ?_
    refine va_put (D := g.1) (ci := 1) (v := .int 1) (ty := .int) (C := "HandTablesModel") (T := T_M) (N := 20) hx hb hts (fun w hw => wd_in (u_inM w hw)) tf_M tf_M_ok n_M hown hK hP (mo_D hap) hSS 0 rfl rfl 0 (by decide) (hts _ (wd_in (gw_mem 457 rfl rfl))) (fun _ h => h) rfl (by decide +kernel) rfl rfl (Nat.le_of_ble_eq_true rfl) dM_wins_50 (fun H locs hP _ hSS => ?_)
    have hP : va_P g.1 cl_X (mo_V g 1 ks kc rn oc hd hs se bd (nI 5) dk dp 0 bo wi sh lf lc mo ah) H := hP
    refine lv_aload_n hx hb dM_wins_53 rfl (lv_at hl 0 rfl) ?_
    refine va_get (D := g.1) (ci := 1) (v := .int 1) (C := "HandTablesModel") (T := T_M) (N := 20) hx hb hts (fun w hw => wd_in (u_inM w hw)) hown hK hP 0 rfl rfl 0 (by decide) (hts _ (wd_in (gw_mem 457 rfl rfl))) (fun _ h => h) rfl dM_wins_54 ?_
    refine lv_if_le (tgt := 62) hx hb dM_wins_57 (by decide) (fun hc20 => ?_) (fun hc20 => ?_)
    · first | exact absurd hc20 (by decide) | exact absurd (by decide) hc20
    refine lv_iconst (v := 0) hx hb dM_wins_60 (by decide) ?_
    exact mm_iret (S := (1, ks, kc, rn, oc, hd, hs, se, bd, (nI 5), dk, dp, 0, bo, wi, sh, lf, lc, mo, ah)) hx hb hr hlk dM_wins_61 hP hSS (by exact ⟨by (try simp only [if_neg hc1]) <;> rfl, rn, oc, hd, hs, mo, ah, bo, lf, lc, by (try simp only [if_neg hc1]) <;> rfl⟩)
set_option maxHeartbeats 4000000 in
set_option maxRecDepth 100000 in
theorem cM_wins_4 (l : Launch) (g : mo_E) (th : Int32) (ks : Nat → Int32) (kc : Int32) (rn : Nat → Int32) (oc : Nat → Int32) (hd : Nat → Int32) (hs : Int32) (se : Nat → Int32) (bd : Nat → Int32) (dk : Nat → Int32) (dp : Int32) (bo : Int32) (wi : Nat → Int32) (sh : Nat → Int32) (lf : Nat → Int32) (lc : Int32) (mo : Int32) (ah : Int32) (q : Int32) (w : Int32)  (hap : mo_ap g) (hbd : ∀ i, i < 4 → vp_in (bd i) 52) (hse : k_hse se) : mm_M l yM_wins bM_wins 3 (some .int) 8 [.ref (g.2.2 0), .int q, .int w] g (th, ks, kc, rn, oc, hd, hs, se, bd, (nI 4), dk, dp, 0, bo, wi, sh, lf, lc, mo, ah) (fun v9 S9 => v9 = some (.int (if m_noSeat q = 0 then (if w < 0 then 0 else if w ≤ 1 then (if se (2 * q).toNatClampNeg = -1 then 0 else (if w = 0 then (k_all se bd 4 lf wi sh).1 q.toNatClampNeg else (k_all se bd 4 lf wi sh).2 q.toNatClampNeg)) else 0) else 0)) ∧ ∃ (rn' : Nat → Int32) (oc' : Nat → Int32) (hd' : Nat → Int32) (hs' : Int32) (mo' : Int32) (ah' : Int32) (bo' : Int32) (lf' : Nat → Int32) (lc' : Int32), S9 = ((if m_noSeat q = 0 then (if w < 0 then 2 else if w ≤ 1 then (if se (2 * q).toNatClampNeg = -1 then 3 else 0) else 2) else 1), ks, kc, rn', oc', hd', hs', se, bd, (nI 4), dk, dp, (if (if m_noSeat q = 0 then (if w < 0 then 2 else if w ≤ 1 then (if se (2 * q).toNatClampNeg = -1 then 3 else 0) else 2) else 1) = 0 then 1 else 0), bo', (if (if m_noSeat q = 0 then (if w < 0 then 2 else if w ≤ 1 then (if se (2 * q).toNatClampNeg = -1 then 3 else 0) else 2) else 1) = 0 then (k_all se bd 4 lf wi sh).1 else wi), (if (if m_noSeat q = 0 then (if w < 0 then 2 else if w ≤ 1 then (if se (2 * q).toNatClampNeg = -1 then 3 else 0) else 2) else 1) = 0 then (k_all se bd 4 lf wi sh).2 else sh), lf', lc', mo', ah')) := by
  refine Met.ofW (cc := bM_wins) (maxL := 3) (ret := (some .int)) (by decide) rfl ?_
  intro p e s m args below meth c s₁ BB hml hv
  obtain ⟨rfl, hB⟩ := hv
  have hx := BB.exec
  have hb := BB.bytes
  have hr := BB.returns
  have hlk := BB.notSynchronized
  have hts := atoms_spec (ws := wd yM_wins bM_wins 3 (some .int)) BB.pre
  have hown : s.vm.findClass "HandTablesModel" = some m.cls := findClass_of_methodNamed BB.named
  have hS : CallFix p m c bM_wins 3 s _ (wd yM_wins bM_wins 3 (some .int)) "HandTablesModel" := ⟨hx, hb, hml, hown, hts⟩
  obtain ⟨hP, hK⟩ := hB
  have hP : va_P g.1 cl_X (mo_V g th ks kc rn oc hd hs se bd (nI 4) dk dp 0 bo wi sh lf lc mo ah) s.heap := hP
  have hSS : va_S (mo_fr g) s.heap s.heap [] := va_S.rf
  have hl := lv_entry ([.ref (g.2.2 0), .int q, .int w]) (n := 3) (Nat.le_of_ble_eq_true rfl)
  rw [lg_entry_eq]
  generalize (lg_sl ([.ref (g.2.2 0), .int q, .int w]) ++ List.replicate (3 - (lg_sl ([.ref (g.2.2 0), .int q, .int w])).length) Slot.unset).toArray = ls at hl ⊢
  have hl : lv_has ls 3 [(0, .ref (g.2.2 0)), (1, .int q), (2, .int w)] := hl
  obtain ⟨H, eH⟩ : ∃ H, s.heap = H := ⟨_, rfl⟩
  obtain ⟨locs, eL⟩ : ∃ L, ([] : List Loc) = L := ⟨_, rfl⟩
  have hP : va_P g.1 cl_X (mo_V g th ks kc rn oc hd hs se bd (nI 4) dk dp 0 bo wi sh lf lc mo ah) H := by rw [← eH]; exact hP
  have hSS : va_S (mo_fr g) s.heap H locs := by rw [← eH, ← eL]; exact hSS
  refine mm_go eH eL ?_
  clear eH eL
  refine lv_aload_n hx hb dM_wins_0 rfl (lv_at hl 0 rfl) ?_
  refine lv_iload_n hx hb dM_wins_1 rfl (lv_at hl 1 rfl) ?_
  refine pu_SH (cM_noSeat l _) rfl kM_M_noSeat hS ⟨Nat.le_of_ble_eq_true rfl, Nat.le_of_ble_eq_true rfl⟩ hl.1 rfl (Nat.le_of_ble_eq_true rfl) ⟨Nat.zero_le _, Nat.zero_le _⟩ dM_wins_2 ?_
  refine lv_if_eq (tgt := 12) hx hb dM_wins_5 (by decide) (fun hc1 => ?_) (fun hc1 => ?_)
  · refine lv_iload_n hx hb dM_wins_12 rfl (lv_at hl 2 rfl) ?_
    refine lv_if_lt (tgt := 21) hx hb dM_wins_13 (by decide) (fun hc2 => ?_) (fun hc2 => ?_)
    · refine lv_iconst (v := 2) hx hb dM_wins_21 (by decide) ?_
      refine lv_goto (tgt := 50) hx hb dM_wins_22 (by decide) ?_
      refine va_put (D := g.1) (ci := 1) (v := .int 2) (ty := .int) (C := "HandTablesModel") (T := T_M) (N := 20) hx hb hts (fun w hw => wd_in (u_inM w hw)) tf_M tf_M_ok n_M hown hK hP (mo_D hap) hSS 0 rfl rfl 0 (by decide) (hts _ (wd_in (gw_mem 457 rfl rfl))) (fun _ h => h) rfl (by decide +kernel) rfl rfl (Nat.le_of_ble_eq_true rfl) dM_wins_50 (fun H locs hP _ hSS => ?_)
      have hP : va_P g.1 cl_X (mo_V g 2 ks kc rn oc hd hs se bd (nI 4) dk dp 0 bo wi sh lf lc mo ah) H := hP
      refine lv_aload_n hx hb dM_wins_53 rfl (lv_at hl 0 rfl) ?_
      refine va_get (D := g.1) (ci := 1) (v := .int 2) (C := "HandTablesModel") (T := T_M) (N := 20) hx hb hts (fun w hw => wd_in (u_inM w hw)) hown hK hP 0 rfl rfl 0 (by decide) (hts _ (wd_in (gw_mem 457 rfl rfl))) (fun _ h => h) rfl dM_wins_54 ?_
      refine lv_if_le (tgt := 62) hx hb dM_wins_57 (by decide) (fun hc3 => ?_) (fun hc3 => ?_)
      · first | exact absurd hc3 (by decide) | exact absurd (by decide) hc3
      refine lv_iconst (v := 0) hx hb dM_wins_60 (by decide) ?_
      exact mm_iret (S := (2, ks, kc, rn, oc, hd, hs, se, bd, (nI 4), dk, dp, 0, bo, wi, sh, lf, lc, mo, ah)) hx hb hr hlk dM_wins_61 hP hSS (by exact ⟨by (try simp only [if_pos hc1, if_pos hc2]) <;> rfl, rn, oc, hd, hs, mo, ah, bo, lf, lc, by (try simp only [if_pos hc1, if_pos hc2]) <;> rfl⟩)
    · refine lv_iload_n hx hb dM_wins_16 rfl (lv_at hl 2 rfl) ?_
      refine lv_iconst (v := 1) hx hb dM_wins_17 (by decide) ?_
      refine lv_icmp_le (tgt := 25) hx hb dM_wins_18 (by decide) (fun hc4 => ?_) (fun hc4 => ?_)
      · refine lv_aload_n hx hb dM_wins_25 rfl (lv_at hl 0 rfl) ?_
        refine va_get (D := g.1) (ci := 1) (v := .ref (g.2.2 5)) (C := "HandTablesModel") (T := T_M) (N := 20) hx hb hts (fun w hw => wd_in (u_inM w hw)) hown hK hP 0 rfl rfl 7 (by decide) (hts _ (wd_in (gw_mem 464 rfl rfl))) (fun _ h => h) rfl dM_wins_26 ?_
        refine lv_iconst (v := 2) hx hb dM_wins_29 (by decide) ?_
        refine lv_iload_n hx hb dM_wins_30 rfl (lv_at hl 1 rfl) ?_
        refine lv_imul hx hb dM_wins_31 ?_
        refine va_iald hx hb hK hP 5 0 rfl rfl (k_s2 hc1).1 dM_wins_32 ?_
        refine lv_iconst (v := (-1)) hx hb dM_wins_33 (by decide) ?_
        refine lv_icmp_eq (tgt := 45) hx hb dM_wins_34 (by decide) (fun hc5 => ?_) (fun hc5 => ?_)
        · refine lv_iconst (v := 3) hx hb dM_wins_45 (by decide) ?_
          refine lv_goto (tgt := 50) hx hb dM_wins_46 (by decide) ?_
          refine va_put (D := g.1) (ci := 1) (v := .int 3) (ty := .int) (C := "HandTablesModel") (T := T_M) (N := 20) hx hb hts (fun w hw => wd_in (u_inM w hw)) tf_M tf_M_ok n_M hown hK hP (mo_D hap) hSS 0 rfl rfl 0 (by decide) (hts _ (wd_in (gw_mem 457 rfl rfl))) (fun _ h => h) rfl (by decide +kernel) rfl rfl (Nat.le_of_ble_eq_true rfl) dM_wins_50 (fun H locs hP _ hSS => ?_)
          have hP : va_P g.1 cl_X (mo_V g 3 ks kc rn oc hd hs se bd (nI 4) dk dp 0 bo wi sh lf lc mo ah) H := hP
          refine lv_aload_n hx hb dM_wins_53 rfl (lv_at hl 0 rfl) ?_
          refine va_get (D := g.1) (ci := 1) (v := .int 3) (C := "HandTablesModel") (T := T_M) (N := 20) hx hb hts (fun w hw => wd_in (u_inM w hw)) hown hK hP 0 rfl rfl 0 (by decide) (hts _ (wd_in (gw_mem 457 rfl rfl))) (fun _ h => h) rfl dM_wins_54 ?_
          refine lv_if_le (tgt := 62) hx hb dM_wins_57 (by decide) (fun hc6 => ?_) (fun hc6 => ?_)
          · first | exact absurd hc6 (by decide) | exact absurd (by decide) hc6
          refine lv_iconst (v := 0) hx hb dM_wins_60 (by decide) ?_
          exact mm_iret (S := (3, ks, kc, rn, oc, hd, hs, se, bd, (nI 4), dk, dp, 0, bo, wi, sh, lf, lc, mo, ah)) hx hb hr hlk dM_wins_61 hP hSS (by exact ⟨by (try simp only [if_pos hc1, if_neg hc2, if_pos hc4, if_pos hc5]) <;> rfl, rn, oc, hd, hs, mo, ah, bo, lf, lc, by (try simp only [if_pos hc1, if_neg hc2, if_pos hc4, if_pos hc5]) <;> rfl⟩)
        · refine lv_aload_n hx hb dM_wins_37 rfl (lv_at hl 0 rfl) ?_
          refine va_get (D := g.1) (ci := 1) (v := .int (nI 4)) (C := "HandTablesModel") (T := T_M) (N := 20) hx hb hts (fun w hw => wd_in (u_inM w hw)) hown hK hP 0 rfl rfl 9 (by decide) (hts _ (wd_in (gw_mem 466 rfl rfl))) (fun _ h => h) rfl dM_wins_38 ?_
          refine lv_iconst (v := 3) hx hb dM_wins_41 (by decide) ?_
          refine lv_icmp_ge (tgt := 49) hx hb dM_wins_42 (by decide) (fun hc7 => ?_) (fun hc7 => ?_)
          rotate_left
          · first | exact absurd hc7 (by decide) | exact absurd (by decide) hc7
          refine lv_iconst (v := 0) hx hb dM_wins_49 (by decide) ?_
          refine va_put (D := g.1) (ci := 1) (v := .int 0) (ty := .int) (C := "HandTablesModel") (T := T_M) (N := 20) hx hb hts (fun w hw => wd_in (u_inM w hw)) tf_M tf_M_ok n_M hown hK hP (mo_D hap) hSS 0 rfl rfl 0 (by decide) (hts _ (wd_in (gw_mem 457 rfl rfl))) (fun _ h => h) rfl (by decide +kernel) rfl rfl (Nat.le_of_ble_eq_true rfl) dM_wins_50 (fun H locs hP _ hSS => ?_)
          have hP : va_P g.1 cl_X (mo_V g 0 ks kc rn oc hd hs se bd (nI 4) dk dp 0 bo wi sh lf lc mo ah) H := hP
          refine lv_aload_n hx hb dM_wins_53 rfl (lv_at hl 0 rfl) ?_
          refine va_get (D := g.1) (ci := 1) (v := .int 0) (C := "HandTablesModel") (T := T_M) (N := 20) hx hb hts (fun w hw => wd_in (u_inM w hw)) hown hK hP 0 rfl rfl 0 (by decide) (hts _ (wd_in (gw_mem 457 rfl rfl))) (fun _ h => h) rfl dM_wins_54 ?_
          refine lv_if_le (tgt := 62) hx hb dM_wins_57 (by decide) (fun hc8 => ?_) (fun hc8 => ?_)
          rotate_left
          · first | exact absurd hc8 (by decide) | exact absurd (by decide) hc8
          refine lv_aload_n hx hb dM_wins_62 rfl (lv_at hl 0 rfl) ?_
          refine mm_V (cM_countAll_4 l g 0 ks kc rn oc hd hs se bd dk dp bo wi sh lf lc mo ah hap hbd hse) rfl kM_M_countAll hS hK hP ⟨Nat.le_of_ble_eq_true rfl, Nat.le_of_ble_eq_true rfl⟩ hl.1 rfl (Nat.le_of_ble_eq_true rfl) ⟨Nat.zero_le _, Nat.zero_le _⟩ dM_wins_63 hSS (fun v9 S9 H locs hR hP hSS => ?_)
          obtain ⟨rfl, rn9, oc10, hd11, hs12, mo13, ah14, bo15, lf16, lc17, rfl⟩ := hR
          have hP : va_P g.1 cl_X (mo_V g 0 ks kc rn9 oc10 hd11 hs12 se bd (nI 4) dk dp 1 bo15 ((k_all se bd 4 lf wi sh).1) ((k_all se bd 4 lf wi sh).2) lf16 lc17 mo13 ah14) H := hP
          refine lv_iload_n hx hb dM_wins_66 rfl (lv_at hl 2 rfl) ?_
          refine lv_if_ne (tgt := 79) hx hb dM_wins_67 (by decide) (fun hc18 => ?_) (fun hc18 => ?_)
          · refine lv_aload_n hx hb dM_wins_79 rfl (lv_at hl 0 rfl) ?_
            refine va_get (D := g.1) (ci := 1) (v := .ref (g.2.2 9)) (C := "HandTablesModel") (T := T_M) (N := 20) hx hb hts (fun w hw => wd_in (u_inM w hw)) hown hK hP 0 rfl rfl 15 (by decide) (hts _ (wd_in (gw_mem 472 rfl rfl))) (fun _ h => h) rfl dM_wins_80 ?_
            refine lv_iload_n hx hb dM_wins_83 rfl (lv_at hl 1 rfl) ?_
            refine va_iald hx hb hK hP 9 0 rfl rfl (k_s2 hc1).2.2 dM_wins_84 ?_
            exact mm_iret (S := (0, ks, kc, rn9, oc10, hd11, hs12, se, bd, (nI 4), dk, dp, 1, bo15, (k_all se bd 4 lf wi sh).1, (k_all se bd 4 lf wi sh).2, lf16, lc17, mo13, ah14)) hx hb hr hlk dM_wins_85 hP hSS (by exact ⟨by (try simp only [if_pos hc1, if_neg hc2, if_pos hc4, if_neg hc5, if_neg hc18]) <;> rfl, rn9, oc10, hd11, hs12, mo13, ah14, bo15, lf16, lc17, by (try simp only [if_pos hc1, if_neg hc2, if_pos hc4, if_neg hc5, if_neg hc18]) <;> rfl⟩)
          · refine lv_aload_n hx hb dM_wins_70 rfl (lv_at hl 0 rfl) ?_
            refine va_get (D := g.1) (ci := 1) (v := .ref (g.2.2 8)) (C := "HandTablesModel") (T := T_M) (N := 20) hx hb hts (fun w hw => wd_in (u_inM w hw)) hown hK hP 0 rfl rfl 14 (by decide) (hts _ (wd_in (gw_mem 471 rfl rfl))) (fun _ h => h) rfl dM_wins_71 ?_
            refine lv_iload_n hx hb dM_wins_74 rfl (lv_at hl 1 rfl) ?_
            refine va_iald hx hb hK hP 8 0 rfl rfl (k_s2 hc1).2.2 dM_wins_75 ?_
            refine lv_goto (tgt := 85) hx hb dM_wins_76 (by decide) ?_
            exact mm_iret (S := (0, ks, kc, rn9, oc10, hd11, hs12, se, bd, (nI 4), dk, dp, 1, bo15, (k_all se bd 4 lf wi sh).1, (k_all se bd 4 lf wi sh).2, lf16, lc17, mo13, ah14)) hx hb hr hlk dM_wins_85 hP hSS (by exact ⟨by (try simp only [if_pos hc1, if_neg hc2, if_pos hc4, if_neg hc5, if_pos hc18]) <;> rfl, rn9, oc10, hd11, hs12, mo13, ah14, bo15, lf16, lc17, by (try simp only [if_pos hc1, if_neg hc2, if_pos hc4, if_neg hc5, if_pos hc18]) <;> rfl⟩)
      · refine lv_iconst (v := 2) hx hb dM_wins_21 (by decide) ?_
        refine lv_goto (tgt := 50) hx hb dM_wins_22 (by decide) ?_
        refine va_put (D := g.1) (ci := 1) (v := .int 2) (ty := .int) (C := "HandTablesModel") (T := T_M) (N := 20) hx hb hts (fun w hw => wd_in (u_inM w hw)) tf_M tf_M_ok n_M hown hK hP (mo_D hap) hSS 0 rfl rfl 0 (by decide) (hts _ (wd_in (gw_mem 457 rfl rfl))) (fun _ h => h) rfl (by decide +kernel) rfl rfl (Nat.le_of_ble_eq_true rfl) dM_wins_50 (fun H locs hP _ hSS => ?_)
        have hP : va_P g.1 cl_X (mo_V g 2 ks kc rn oc hd hs se bd (nI 4) dk dp 0 bo wi sh lf lc mo ah) H := hP
        refine lv_aload_n hx hb dM_wins_53 rfl (lv_at hl 0 rfl) ?_
        refine va_get (D := g.1) (ci := 1) (v := .int 2) (C := "HandTablesModel") (T := T_M) (N := 20) hx hb hts (fun w hw => wd_in (u_inM w hw)) hown hK hP 0 rfl rfl 0 (by decide) (hts _ (wd_in (gw_mem 457 rfl rfl))) (fun _ h => h) rfl dM_wins_54 ?_
        refine lv_if_le (tgt := 62) hx hb dM_wins_57 (by decide) (fun hc19 => ?_) (fun hc19 => ?_)
        · first | exact absurd hc19 (by decide) | exact absurd (by decide) hc19
        refine lv_iconst (v := 0) hx hb dM_wins_60 (by decide) ?_
        exact mm_iret (S := (2, ks, kc, rn, oc, hd, hs, se, bd, (nI 4), dk, dp, 0, bo, wi, sh, lf, lc, mo, ah)) hx hb hr hlk dM_wins_61 hP hSS (by exact ⟨by (try simp only [if_pos hc1, if_neg hc2, if_neg hc4]) <;> rfl, rn, oc, hd, hs, mo, ah, bo, lf, lc, by (try simp only [if_pos hc1, if_neg hc2, if_neg hc4]) <;> rfl⟩)
  · refine lv_iconst (v := 1) hx hb dM_wins_8 (by decide) ?_
    refine lv_goto (tgt := 50) hx hb dM_wins_9 (by decide) ?_
    refine va_put (D := g.1) (ci := 1) (v := .int 1) (ty := .int) (C := "HandTablesModel") (T := T_M) (N := 20) hx hb hts (fun w hw => wd_in (u_inM w hw)) tf_M tf_M_ok n_M hown hK hP (mo_D hap) hSS 0 rfl rfl 0 (by decide) (hts _ (wd_in (gw_mem 457 rfl rfl))) (fun _ h => h) rfl (by decide +kernel) rfl rfl (Nat.le_of_ble_eq_true rfl) dM_wins_50 (fun H locs hP _ hSS => ?_)
    have hP : va_P g.1 cl_X (mo_V g 1 ks kc rn oc hd hs se bd (nI 4) dk dp 0 bo wi sh lf lc mo ah) H := hP
    refine lv_aload_n hx hb dM_wins_53 rfl (lv_at hl 0 rfl) ?_
    refine va_get (D := g.1) (ci := 1) (v := .int 1) (C := "HandTablesModel") (T := T_M) (N := 20) hx hb hts (fun w hw => wd_in (u_inM w hw)) hown hK hP 0 rfl rfl 0 (by decide) (hts _ (wd_in (gw_mem 457 rfl rfl))) (fun _ h => h) rfl dM_wins_54 ?_
    refine lv_if_le (tgt := 62) hx hb dM_wins_57 (by decide) (fun hc20 => ?_) (fun hc20 => ?_)
    · first | exact absurd hc20 (by decide) | exact absurd (by decide) hc20
    refine lv_iconst (v := 0) hx hb dM_wins_60 (by decide) ?_
    exact mm_iret (S := (1, ks, kc, rn, oc, hd, hs, se, bd, (nI 4), dk, dp, 0, bo, wi, sh, lf, lc, mo, ah)) hx hb hr hlk dM_wins_61 hP hSS (by exact ⟨by (try simp only [if_neg hc1]) <;> rfl, rn, oc, hd, hs, mo, ah, bo, lf, lc, by (try simp only [if_neg hc1]) <;> rfl⟩)
set_option maxHeartbeats 4000000 in
set_option maxRecDepth 100000 in
theorem cM_wins_3 (l : Launch) (g : mo_E) (th : Int32) (ks : Nat → Int32) (kc : Int32) (rn : Nat → Int32) (oc : Nat → Int32) (hd : Nat → Int32) (hs : Int32) (se : Nat → Int32) (bd : Nat → Int32) (dk : Nat → Int32) (dp : Int32) (bo : Int32) (wi : Nat → Int32) (sh : Nat → Int32) (lf : Nat → Int32) (lc : Int32) (mo : Int32) (ah : Int32) (q : Int32) (w : Int32)  (hap : mo_ap g) (hbd : ∀ i, i < 3 → vp_in (bd i) 52) (hse : k_hse se) : mm_M l yM_wins bM_wins 3 (some .int) 8 [.ref (g.2.2 0), .int q, .int w] g (th, ks, kc, rn, oc, hd, hs, se, bd, (nI 3), dk, dp, 0, bo, wi, sh, lf, lc, mo, ah) (fun v9 S9 => v9 = some (.int (if m_noSeat q = 0 then (if w < 0 then 0 else if w ≤ 1 then (if se (2 * q).toNatClampNeg = -1 then 0 else (if w = 0 then (k_all se bd 3 lf wi sh).1 q.toNatClampNeg else (k_all se bd 3 lf wi sh).2 q.toNatClampNeg)) else 0) else 0)) ∧ ∃ (rn' : Nat → Int32) (oc' : Nat → Int32) (hd' : Nat → Int32) (hs' : Int32) (mo' : Int32) (ah' : Int32) (bo' : Int32) (lf' : Nat → Int32) (lc' : Int32), S9 = ((if m_noSeat q = 0 then (if w < 0 then 2 else if w ≤ 1 then (if se (2 * q).toNatClampNeg = -1 then 3 else 0) else 2) else 1), ks, kc, rn', oc', hd', hs', se, bd, (nI 3), dk, dp, (if (if m_noSeat q = 0 then (if w < 0 then 2 else if w ≤ 1 then (if se (2 * q).toNatClampNeg = -1 then 3 else 0) else 2) else 1) = 0 then 1 else 0), bo', (if (if m_noSeat q = 0 then (if w < 0 then 2 else if w ≤ 1 then (if se (2 * q).toNatClampNeg = -1 then 3 else 0) else 2) else 1) = 0 then (k_all se bd 3 lf wi sh).1 else wi), (if (if m_noSeat q = 0 then (if w < 0 then 2 else if w ≤ 1 then (if se (2 * q).toNatClampNeg = -1 then 3 else 0) else 2) else 1) = 0 then (k_all se bd 3 lf wi sh).2 else sh), lf', lc', mo', ah')) := by
  refine Met.ofW (cc := bM_wins) (maxL := 3) (ret := (some .int)) (by decide) rfl ?_
  intro p e s m args below meth c s₁ BB hml hv
  obtain ⟨rfl, hB⟩ := hv
  have hx := BB.exec
  have hb := BB.bytes
  have hr := BB.returns
  have hlk := BB.notSynchronized
  have hts := atoms_spec (ws := wd yM_wins bM_wins 3 (some .int)) BB.pre
  have hown : s.vm.findClass "HandTablesModel" = some m.cls := findClass_of_methodNamed BB.named
  have hS : CallFix p m c bM_wins 3 s _ (wd yM_wins bM_wins 3 (some .int)) "HandTablesModel" := ⟨hx, hb, hml, hown, hts⟩
  obtain ⟨hP, hK⟩ := hB
  have hP : va_P g.1 cl_X (mo_V g th ks kc rn oc hd hs se bd (nI 3) dk dp 0 bo wi sh lf lc mo ah) s.heap := hP
  have hSS : va_S (mo_fr g) s.heap s.heap [] := va_S.rf
  have hl := lv_entry ([.ref (g.2.2 0), .int q, .int w]) (n := 3) (Nat.le_of_ble_eq_true rfl)
  rw [lg_entry_eq]
  generalize (lg_sl ([.ref (g.2.2 0), .int q, .int w]) ++ List.replicate (3 - (lg_sl ([.ref (g.2.2 0), .int q, .int w])).length) Slot.unset).toArray = ls at hl ⊢
  have hl : lv_has ls 3 [(0, .ref (g.2.2 0)), (1, .int q), (2, .int w)] := hl
  obtain ⟨H, eH⟩ : ∃ H, s.heap = H := ⟨_, rfl⟩
  obtain ⟨locs, eL⟩ : ∃ L, ([] : List Loc) = L := ⟨_, rfl⟩
  have hP : va_P g.1 cl_X (mo_V g th ks kc rn oc hd hs se bd (nI 3) dk dp 0 bo wi sh lf lc mo ah) H := by rw [← eH]; exact hP
  have hSS : va_S (mo_fr g) s.heap H locs := by rw [← eH, ← eL]; exact hSS
  refine mm_go eH eL ?_
  clear eH eL
  refine lv_aload_n hx hb dM_wins_0 rfl (lv_at hl 0 rfl) ?_
  refine lv_iload_n hx hb dM_wins_1 rfl (lv_at hl 1 rfl) ?_
  refine pu_SH (cM_noSeat l _) rfl kM_M_noSeat hS ⟨Nat.le_of_ble_eq_true rfl, Nat.le_of_ble_eq_true rfl⟩ hl.1 rfl (Nat.le_of_ble_eq_true rfl) ⟨Nat.zero_le _, Nat.zero_le _⟩ dM_wins_2 ?_
  refine lv_if_eq (tgt := 12) hx hb dM_wins_5 (by decide) (fun hc1 => ?_) (fun hc1 => ?_)
  · refine lv_iload_n hx hb dM_wins_12 rfl (lv_at hl 2 rfl) ?_
    refine lv_if_lt (tgt := 21) hx hb dM_wins_13 (by decide) (fun hc2 => ?_) (fun hc2 => ?_)
    · refine lv_iconst (v := 2) hx hb dM_wins_21 (by decide) ?_
      refine lv_goto (tgt := 50) hx hb dM_wins_22 (by decide) ?_
      refine va_put (D := g.1) (ci := 1) (v := .int 2) (ty := .int) (C := "HandTablesModel") (T := T_M) (N := 20) hx hb hts (fun w hw => wd_in (u_inM w hw)) tf_M tf_M_ok n_M hown hK hP (mo_D hap) hSS 0 rfl rfl 0 (by decide) (hts _ (wd_in (gw_mem 457 rfl rfl))) (fun _ h => h) rfl (by decide +kernel) rfl rfl (Nat.le_of_ble_eq_true rfl) dM_wins_50 (fun H locs hP _ hSS => ?_)
      have hP : va_P g.1 cl_X (mo_V g 2 ks kc rn oc hd hs se bd (nI 3) dk dp 0 bo wi sh lf lc mo ah) H := hP
      refine lv_aload_n hx hb dM_wins_53 rfl (lv_at hl 0 rfl) ?_
      refine va_get (D := g.1) (ci := 1) (v := .int 2) (C := "HandTablesModel") (T := T_M) (N := 20) hx hb hts (fun w hw => wd_in (u_inM w hw)) hown hK hP 0 rfl rfl 0 (by decide) (hts _ (wd_in (gw_mem 457 rfl rfl))) (fun _ h => h) rfl dM_wins_54 ?_
      refine lv_if_le (tgt := 62) hx hb dM_wins_57 (by decide) (fun hc3 => ?_) (fun hc3 => ?_)
      · first | exact absurd hc3 (by decide) | exact absurd (by decide) hc3
      refine lv_iconst (v := 0) hx hb dM_wins_60 (by decide) ?_
      exact mm_iret (S := (2, ks, kc, rn, oc, hd, hs, se, bd, (nI 3), dk, dp, 0, bo, wi, sh, lf, lc, mo, ah)) hx hb hr hlk dM_wins_61 hP hSS (by exact ⟨by (try simp only [if_pos hc1, if_pos hc2]) <;> rfl, rn, oc, hd, hs, mo, ah, bo, lf, lc, by (try simp only [if_pos hc1, if_pos hc2]) <;> rfl⟩)
    · refine lv_iload_n hx hb dM_wins_16 rfl (lv_at hl 2 rfl) ?_
      refine lv_iconst (v := 1) hx hb dM_wins_17 (by decide) ?_
      refine lv_icmp_le (tgt := 25) hx hb dM_wins_18 (by decide) (fun hc4 => ?_) (fun hc4 => ?_)
      · refine lv_aload_n hx hb dM_wins_25 rfl (lv_at hl 0 rfl) ?_
        refine va_get (D := g.1) (ci := 1) (v := .ref (g.2.2 5)) (C := "HandTablesModel") (T := T_M) (N := 20) hx hb hts (fun w hw => wd_in (u_inM w hw)) hown hK hP 0 rfl rfl 7 (by decide) (hts _ (wd_in (gw_mem 464 rfl rfl))) (fun _ h => h) rfl dM_wins_26 ?_
        refine lv_iconst (v := 2) hx hb dM_wins_29 (by decide) ?_
        refine lv_iload_n hx hb dM_wins_30 rfl (lv_at hl 1 rfl) ?_
        refine lv_imul hx hb dM_wins_31 ?_
        refine va_iald hx hb hK hP 5 0 rfl rfl (k_s2 hc1).1 dM_wins_32 ?_
        refine lv_iconst (v := (-1)) hx hb dM_wins_33 (by decide) ?_
        refine lv_icmp_eq (tgt := 45) hx hb dM_wins_34 (by decide) (fun hc5 => ?_) (fun hc5 => ?_)
        · refine lv_iconst (v := 3) hx hb dM_wins_45 (by decide) ?_
          refine lv_goto (tgt := 50) hx hb dM_wins_46 (by decide) ?_
          refine va_put (D := g.1) (ci := 1) (v := .int 3) (ty := .int) (C := "HandTablesModel") (T := T_M) (N := 20) hx hb hts (fun w hw => wd_in (u_inM w hw)) tf_M tf_M_ok n_M hown hK hP (mo_D hap) hSS 0 rfl rfl 0 (by decide) (hts _ (wd_in (gw_mem 457 rfl rfl))) (fun _ h => h) rfl (by decide +kernel) rfl rfl (Nat.le_of_ble_eq_true rfl) dM_wins_50 (fun H locs hP _ hSS => ?_)
          have hP : va_P g.1 cl_X (mo_V g 3 ks kc rn oc hd hs se bd (nI 3) dk dp 0 bo wi sh lf lc mo ah) H := hP
          refine lv_aload_n hx hb dM_wins_53 rfl (lv_at hl 0 rfl) ?_
          refine va_get (D := g.1) (ci := 1) (v := .int 3) (C := "HandTablesModel") (T := T_M) (N := 20) hx hb hts (fun w hw => wd_in (u_inM w hw)) hown hK hP 0 rfl rfl 0 (by decide) (hts _ (wd_in (gw_mem 457 rfl rfl))) (fun _ h => h) rfl dM_wins_54 ?_
          refine lv_if_le (tgt := 62) hx hb dM_wins_57 (by decide) (fun hc6 => ?_) (fun hc6 => ?_)
          · first | exact absurd hc6 (by decide) | exact absurd (by decide) hc6
          refine lv_iconst (v := 0) hx hb dM_wins_60 (by decide) ?_
          exact mm_iret (S := (3, ks, kc, rn, oc, hd, hs, se, bd, (nI 3), dk, dp, 0, bo, wi, sh, lf, lc, mo, ah)) hx hb hr hlk dM_wins_61 hP hSS (by exact ⟨by (try simp only [if_pos hc1, if_neg hc2, if_pos hc4, if_pos hc5]) <;> rfl, rn, oc, hd, hs, mo, ah, bo, lf, lc, by (try simp only [if_pos hc1, if_neg hc2, if_pos hc4, if_pos hc5]) <;> rfl⟩)
        · refine lv_aload_n hx hb dM_wins_37 rfl (lv_at hl 0 rfl) ?_
          refine va_get (D := g.1) (ci := 1) (v := .int (nI 3)) (C := "HandTablesModel") (T := T_M) (N := 20) hx hb hts (fun w hw => wd_in (u_inM w hw)) hown hK hP 0 rfl rfl 9 (by decide) (hts _ (wd_in (gw_mem 466 rfl rfl))) (fun _ h => h) rfl dM_wins_38 ?_
          refine lv_iconst (v := 3) hx hb dM_wins_41 (by decide) ?_
          refine lv_icmp_ge (tgt := 49) hx hb dM_wins_42 (by decide) (fun hc7 => ?_) (fun hc7 => ?_)
          rotate_left
          · first | exact absurd hc7 (by decide) | exact absurd (by decide) hc7
          refine lv_iconst (v := 0) hx hb dM_wins_49 (by decide) ?_
          refine va_put (D := g.1) (ci := 1) (v := .int 0) (ty := .int) (C := "HandTablesModel") (T := T_M) (N := 20) hx hb hts (fun w hw => wd_in (u_inM w hw)) tf_M tf_M_ok n_M hown hK hP (mo_D hap) hSS 0 rfl rfl 0 (by decide) (hts _ (wd_in (gw_mem 457 rfl rfl))) (fun _ h => h) rfl (by decide +kernel) rfl rfl (Nat.le_of_ble_eq_true rfl) dM_wins_50 (fun H locs hP _ hSS => ?_)
          have hP : va_P g.1 cl_X (mo_V g 0 ks kc rn oc hd hs se bd (nI 3) dk dp 0 bo wi sh lf lc mo ah) H := hP
          refine lv_aload_n hx hb dM_wins_53 rfl (lv_at hl 0 rfl) ?_
          refine va_get (D := g.1) (ci := 1) (v := .int 0) (C := "HandTablesModel") (T := T_M) (N := 20) hx hb hts (fun w hw => wd_in (u_inM w hw)) hown hK hP 0 rfl rfl 0 (by decide) (hts _ (wd_in (gw_mem 457 rfl rfl))) (fun _ h => h) rfl dM_wins_54 ?_
          refine lv_if_le (tgt := 62) hx hb dM_wins_57 (by decide) (fun hc8 => ?_) (fun hc8 => ?_)
          rotate_left
          · first | exact absurd hc8 (by decide) | exact absurd (by decide) hc8
          refine lv_aload_n hx hb dM_wins_62 rfl (lv_at hl 0 rfl) ?_
          refine mm_V (cM_countAll_3 l g 0 ks kc rn oc hd hs se bd dk dp bo wi sh lf lc mo ah hap hbd hse) rfl kM_M_countAll hS hK hP ⟨Nat.le_of_ble_eq_true rfl, Nat.le_of_ble_eq_true rfl⟩ hl.1 rfl (Nat.le_of_ble_eq_true rfl) ⟨Nat.zero_le _, Nat.zero_le _⟩ dM_wins_63 hSS (fun v9 S9 H locs hR hP hSS => ?_)
          obtain ⟨rfl, rn9, oc10, hd11, hs12, mo13, ah14, bo15, lf16, lc17, rfl⟩ := hR
          have hP : va_P g.1 cl_X (mo_V g 0 ks kc rn9 oc10 hd11 hs12 se bd (nI 3) dk dp 1 bo15 ((k_all se bd 3 lf wi sh).1) ((k_all se bd 3 lf wi sh).2) lf16 lc17 mo13 ah14) H := hP
          refine lv_iload_n hx hb dM_wins_66 rfl (lv_at hl 2 rfl) ?_
          refine lv_if_ne (tgt := 79) hx hb dM_wins_67 (by decide) (fun hc18 => ?_) (fun hc18 => ?_)
          · refine lv_aload_n hx hb dM_wins_79 rfl (lv_at hl 0 rfl) ?_
            refine va_get (D := g.1) (ci := 1) (v := .ref (g.2.2 9)) (C := "HandTablesModel") (T := T_M) (N := 20) hx hb hts (fun w hw => wd_in (u_inM w hw)) hown hK hP 0 rfl rfl 15 (by decide) (hts _ (wd_in (gw_mem 472 rfl rfl))) (fun _ h => h) rfl dM_wins_80 ?_
            refine lv_iload_n hx hb dM_wins_83 rfl (lv_at hl 1 rfl) ?_
            refine va_iald hx hb hK hP 9 0 rfl rfl (k_s2 hc1).2.2 dM_wins_84 ?_
            exact mm_iret (S := (0, ks, kc, rn9, oc10, hd11, hs12, se, bd, (nI 3), dk, dp, 1, bo15, (k_all se bd 3 lf wi sh).1, (k_all se bd 3 lf wi sh).2, lf16, lc17, mo13, ah14)) hx hb hr hlk dM_wins_85 hP hSS (by exact ⟨by (try simp only [if_pos hc1, if_neg hc2, if_pos hc4, if_neg hc5, if_neg hc18]) <;> rfl, rn9, oc10, hd11, hs12, mo13, ah14, bo15, lf16, lc17, by (try simp only [if_pos hc1, if_neg hc2, if_pos hc4, if_neg hc5, if_neg hc18]) <;> rfl⟩)
          · refine lv_aload_n hx hb dM_wins_70 rfl (lv_at hl 0 rfl) ?_
            refine va_get (D := g.1) (ci := 1) (v := .ref (g.2.2 8)) (C := "HandTablesModel") (T := T_M) (N := 20) hx hb hts (fun w hw => wd_in (u_inM w hw)) hown hK hP 0 rfl rfl 14 (by decide) (hts _ (wd_in (gw_mem 471 rfl rfl))) (fun _ h => h) rfl dM_wins_71 ?_
            refine lv_iload_n hx hb dM_wins_74 rfl (lv_at hl 1 rfl) ?_
            refine va_iald hx hb hK hP 8 0 rfl rfl (k_s2 hc1).2.2 dM_wins_75 ?_
            refine lv_goto (tgt := 85) hx hb dM_wins_76 (by decide) ?_
            exact mm_iret (S := (0, ks, kc, rn9, oc10, hd11, hs12, se, bd, (nI 3), dk, dp, 1, bo15, (k_all se bd 3 lf wi sh).1, (k_all se bd 3 lf wi sh).2, lf16, lc17, mo13, ah14)) hx hb hr hlk dM_wins_85 hP hSS (by exact ⟨by (try simp only [if_pos hc1, if_neg hc2, if_pos hc4, if_neg hc5, if_pos hc18]) <;> rfl, rn9, oc10, hd11, hs12, mo13, ah14, bo15, lf16, lc17, by (try simp only [if_pos hc1, if_neg hc2, if_pos hc4, if_neg hc5, if_pos hc18]) <;> rfl⟩)
      · refine lv_iconst (v := 2) hx hb dM_wins_21 (by decide) ?_
        refine lv_goto (tgt := 50) hx hb dM_wins_22 (by decide) ?_
        refine va_put (D := g.1) (ci := 1) (v := .int 2) (ty := .int) (C := "HandTablesModel") (T := T_M) (N := 20) hx hb hts (fun w hw => wd_in (u_inM w hw)) tf_M tf_M_ok n_M hown hK hP (mo_D hap) hSS 0 rfl rfl 0 (by decide) (hts _ (wd_in (gw_mem 457 rfl rfl))) (fun _ h => h) rfl (by decide +kernel) rfl rfl (Nat.le_of_ble_eq_true rfl) dM_wins_50 (fun H locs hP _ hSS => ?_)
        have hP : va_P g.1 cl_X (mo_V g 2 ks kc rn oc hd hs se bd (nI 3) dk dp 0 bo wi sh lf lc mo ah) H := hP
        refine lv_aload_n hx hb dM_wins_53 rfl (lv_at hl 0 rfl) ?_
        refine va_get (D := g.1) (ci := 1) (v := .int 2) (C := "HandTablesModel") (T := T_M) (N := 20) hx hb hts (fun w hw => wd_in (u_inM w hw)) hown hK hP 0 rfl rfl 0 (by decide) (hts _ (wd_in (gw_mem 457 rfl rfl))) (fun _ h => h) rfl dM_wins_54 ?_
        refine lv_if_le (tgt := 62) hx hb dM_wins_57 (by decide) (fun hc19 => ?_) (fun hc19 => ?_)
        · first | exact absurd hc19 (by decide) | exact absurd (by decide) hc19
        refine lv_iconst (v := 0) hx hb dM_wins_60 (by decide) ?_
        exact mm_iret (S := (2, ks, kc, rn, oc, hd, hs, se, bd, (nI 3), dk, dp, 0, bo, wi, sh, lf, lc, mo, ah)) hx hb hr hlk dM_wins_61 hP hSS (by exact ⟨by (try simp only [if_pos hc1, if_neg hc2, if_neg hc4]) <;> rfl, rn, oc, hd, hs, mo, ah, bo, lf, lc, by (try simp only [if_pos hc1, if_neg hc2, if_neg hc4]) <;> rfl⟩)
  · refine lv_iconst (v := 1) hx hb dM_wins_8 (by decide) ?_
    refine lv_goto (tgt := 50) hx hb dM_wins_9 (by decide) ?_
    refine va_put (D := g.1) (ci := 1) (v := .int 1) (ty := .int) (C := "HandTablesModel") (T := T_M) (N := 20) hx hb hts (fun w hw => wd_in (u_inM w hw)) tf_M tf_M_ok n_M hown hK hP (mo_D hap) hSS 0 rfl rfl 0 (by decide) (hts _ (wd_in (gw_mem 457 rfl rfl))) (fun _ h => h) rfl (by decide +kernel) rfl rfl (Nat.le_of_ble_eq_true rfl) dM_wins_50 (fun H locs hP _ hSS => ?_)
    have hP : va_P g.1 cl_X (mo_V g 1 ks kc rn oc hd hs se bd (nI 3) dk dp 0 bo wi sh lf lc mo ah) H := hP
    refine lv_aload_n hx hb dM_wins_53 rfl (lv_at hl 0 rfl) ?_
    refine va_get (D := g.1) (ci := 1) (v := .int 1) (C := "HandTablesModel") (T := T_M) (N := 20) hx hb hts (fun w hw => wd_in (u_inM w hw)) hown hK hP 0 rfl rfl 0 (by decide) (hts _ (wd_in (gw_mem 457 rfl rfl))) (fun _ h => h) rfl dM_wins_54 ?_
    refine lv_if_le (tgt := 62) hx hb dM_wins_57 (by decide) (fun hc20 => ?_) (fun hc20 => ?_)
    · first | exact absurd hc20 (by decide) | exact absurd (by decide) hc20
    refine lv_iconst (v := 0) hx hb dM_wins_60 (by decide) ?_
    exact mm_iret (S := (1, ks, kc, rn, oc, hd, hs, se, bd, (nI 3), dk, dp, 0, bo, wi, sh, lf, lc, mo, ah)) hx hb hr hlk dM_wins_61 hP hSS (by exact ⟨by (try simp only [if_neg hc1]) <;> rfl, rn, oc, hd, hs, mo, ah, bo, lf, lc, by (try simp only [if_neg hc1]) <;> rfl⟩)
/-- a pass's inner loop: the key y moves down by steps of G -/
def ki_lp (G : Nat) (y : Int32) : Nat → Nat → (Nat → Int32) → Nat × (Nat → Int32)
  | 0, A, f => (A, f)
  | i + 1, A, f => if nI A < nI G then (A, f) else if f (nI A - nI G).toNatClampNeg ≤ y then (A, f) else ki_lp G y i (A - G) (upd f (nI A).toNatClampNeg (f (nI A - nI G).toNatClampNeg))
def k_ins (G : Nat) (k : Nat) (f : Nat → Int32) : Nat → Int32 := upd (ki_lp G (f (nI k).toNatClampNeg) k k f).2 (nI (ki_lp G (f (nI k).toNatClampNeg) k k f).1).toNatClampNeg (f (nI k).toNatClampNeg)
def kg_lp (G : Nat) : Nat → (Nat → Int32) → Nat → Int32
  | 0, f => f
  | n + 1, f => kg_lp G n (k_ins G (7462 - (n + 1)) f)
def k_pass (G : Nat) (f : Nat → Int32) : Nat → Int32 := kg_lp G (7462 - G) f
def kS_lp : Nat → Nat → (Nat → Int32) → Nat → Int32
  | 0, _, f => f
  | n + 1, G, f => if nI G ≤ 0 then f else if nI G ≤ 2 then kS_lp n (G - 1) (k_pass G f) else kS_lp n (G / 3) (k_pass G f)
def k_sort (f : Nat → Int32) : Nat → Int32 := kS_lp 3001 3000 f
theorem ki_le (G : Nat) (y : Int32) : ∀ (i A : Nat) (f : Nat → Int32), (ki_lp G y i A f).1 ≤ A
  | 0, A, f => Nat.le_refl A
  | i + 1, A, f => by
    unfold ki_lp
    split
    · exact Nat.le_refl A
    · split
      · exact Nat.le_refl A
      · have := ki_le G y i (A - G) (upd f (nI A).toNatClampNeg (f (nI A - nI G).toNatClampNeg))
        omega
theorem kS_pos {G : Nat} (h : ¬ nI G ≤ 0) (hG : G ≤ 3000) : 0 < G := Nat.pos_of_ne_zero (fun z => h (by rw [z]; exact Int32.le_refl _))
theorem ki_ge {A G : Nat} (h : ¬ nI A < nI G) (hA : A ≤ 7462) (hG : G ≤ 3000) : G ≤ A := Nat.le_of_not_lt (fun z => h (nI_lt z (by omega)))
set_option maxHeartbeats 4000000 in
set_option maxRecDepth 100000 in
theorem cM_sort (l : Launch) (g : mo_E) (th : Int32) (ks : Nat → Int32) (rn : Nat → Int32) (oc : Nat → Int32) (hd : Nat → Int32) (hs : Int32) (se : Nat → Int32) (bd : Nat → Int32) (bs : Int32) (dk : Nat → Int32) (dp : Int32) (ct : Int32) (bo : Int32) (wi : Nat → Int32) (sh : Nat → Int32) (lf : Nat → Int32) (lc : Int32) (mo : Int32) (ah : Int32)   (hap : mo_ap g)  : mm_M l yM_sort bM_sort 5 none 0 [.ref (g.2.2 0)] g (th, ks, (nI 7462), rn, oc, hd, hs, se, bd, bs, dk, dp, ct, bo, wi, sh, lf, lc, mo, ah) (fun v9 S9 => v9 = none ∧ S9 = (th, (k_sort ks), (nI 7462), rn, oc, hd, hs, se, bd, bs, dk, dp, ct, bo, wi, sh, lf, lc, mo, ah)) := by
  refine Met.ofW (cc := bM_sort) (maxL := 5) (ret := none) (by decide) rfl ?_
  intro p e s m args below meth c s₁ BB hml hv
  obtain ⟨rfl, hB⟩ := hv
  have hx := BB.exec
  have hb := BB.bytes
  have hr := BB.returns
  have hlk := BB.notSynchronized
  have hts := atoms_spec (ws := wd yM_sort bM_sort 5 none) BB.pre
  have hown : s.vm.findClass "HandTablesModel" = some m.cls := findClass_of_methodNamed BB.named
  have hS : CallFix p m c bM_sort 5 s _ (wd yM_sort bM_sort 5 none) "HandTablesModel" := ⟨hx, hb, hml, hown, hts⟩
  obtain ⟨hP, hK⟩ := hB
  have hP : va_P g.1 cl_X (mo_V g th ks (nI 7462) rn oc hd hs se bd bs dk dp ct bo wi sh lf lc mo ah) s.heap := hP
  have hSS : va_S (mo_fr g) s.heap s.heap [] := va_S.rf
  have hl := lv_entry ([.ref (g.2.2 0)]) (n := 5) (Nat.le_of_ble_eq_true rfl)
  rw [lg_entry_eq]
  generalize (lg_sl ([.ref (g.2.2 0)]) ++ List.replicate (5 - (lg_sl ([.ref (g.2.2 0)])).length) Slot.unset).toArray = ls at hl ⊢
  have hl : lv_has ls 5 [(0, .ref (g.2.2 0))] := hl
  obtain ⟨H, eH⟩ : ∃ H, s.heap = H := ⟨_, rfl⟩
  obtain ⟨locs, eL⟩ : ∃ L, ([] : List Loc) = L := ⟨_, rfl⟩
  have hP : va_P g.1 cl_X (mo_V g th ks (nI 7462) rn oc hd hs se bd bs dk dp ct bo wi sh lf lc mo ah) H := by rw [← eH]; exact hP
  have hSS : va_S (mo_fr g) s.heap H locs := by rw [← eH, ← eL]; exact hSS
  refine mm_go eH eL ?_
  clear eH eL
  refine lv_sipush (v := 3000) hx hb dM_sort_0 (by decide) ?_
  refine jt_topi (fun x1 ex1 => ?_)
  refine lv_istore_n (lv' := [(1, .int x1), (0, .ref (g.2.2 0))]) hx hb dM_sort_3 rfl hl (by decide) rfl (fun ls hl => ?_)
  have hloop : ∀ (n : Nat) (G : Nat)  (wks2 : Nat → Int32) (H : Heap) (locs : List Loc) (ls : Array Slot), lv_has ls 5 [(1, .int (nI G)), (0, .ref (g.2.2 0))] → va_P g.1 cl_X (mo_V g th wks2 (nI 7462) rn oc hd hs se bd bs dk dp ct bo wi sh lf lc mo ah) H → va_S (mo_fr g) s.heap H locs → (G < n) → (G ≤ 3000) → (∀  (H : Heap) (locs : List Loc) (ls : Array Slot), lv_has ls 5 [(0, .ref (g.2.2 0))] → va_P g.1 cl_X (mo_V g th (kS_lp n G wks2) (nI 7462) rn oc hd hs se bd bs dk dp ct bo wi sh lf lc mo ah) H → va_S (mo_fr g) s.heap H locs → W p l e (headSpec (wd yM_sort bM_sort 5 none) (rmD 0 0 0)).room s m ([.ref (g.2.2 0)]).toArray below meth c H locs 0 0 (MQ below (mm_Q g (fun v9 S9 => v9 = none ∧ S9 = (th, (k_sort ks), (nI 7462), rn, oc, hd, hs, se, bd, bs, dk, dp, ct, bo, wi, sh, lf, lc, mo, ah))) ([.ref (g.2.2 0)]).toArray s 0 0 (mo_fr g)) (F0 m 104 ls [])) → W p l e (headSpec (wd yM_sort bM_sort 5 none) (rmD 0 0 0)).room s m ([.ref (g.2.2 0)]).toArray below meth c H locs 0 0 (MQ below (mm_Q g (fun v9 S9 => v9 = none ∧ S9 = (th, (k_sort ks), (nI 7462), rn, oc, hd, hs, se, bd, bs, dk, dp, ct, bo, wi, sh, lf, lc, mo, ah))) ([.ref (g.2.2 0)]).toArray s 0 0 (mo_fr g)) (F0 m 4 ls []) := by
    intro n
    induction n with
    | zero =>
      intro G  wks2 H locs ls hl hP hSS hn hG K
      exact absurd hn (by omega)
    | succ n ih =>
      intro G  wks2 H locs ls hl hP hSS hn hG K
      refine lv_iload_n hx hb dM_sort_4 rfl (lv_at hl 0 rfl) ?_
      refine lv_if_le (tgt := 104) hx hb dM_sort_5 (by decide) (fun hc3 => ?_) (fun hc3 => ?_)
      · have hlB := lv_sub hl [1] rfl
        have hPB := hP
        have hSB := hSS
        simp only [kS_lp, if_pos hc3] at K
        exact K  _ _ _ hlB hPB hSB 
      · refine lv_iload_n hx hb dM_sort_8 rfl (lv_at hl 0 rfl) ?_
        refine jt_topi (fun x4 ex4 => ?_)
        refine lv_istore_n (lv' := [(2, .int x4), (1, .int (nI G)), (0, .ref (g.2.2 0))]) hx hb dM_sort_9 rfl hl (by decide) rfl (fun ls hl => ?_)
        have hloop : ∀ (j : Nat)   (wks5 : Nat → Int32) (H : Heap) (locs : List Loc) (ls : Array Slot), lv_has ls 5 [(2, .int (nI (7462 - j))), (1, .int (nI G)), (0, .ref (g.2.2 0))] → va_P g.1 cl_X (mo_V g th wks5 (nI 7462) rn oc hd hs se bd bs dk dp ct bo wi sh lf lc mo ah) H → va_S (mo_fr g) s.heap H locs → (j ≤ 7462 - G) → (∀  (H : Heap) (locs : List Loc) (ls : Array Slot), lv_has ls 5 [(1, .int (nI G)), (0, .ref (g.2.2 0))] → va_P g.1 cl_X (mo_V g th (kg_lp G j wks5) (nI 7462) rn oc hd hs se bd bs dk dp ct bo wi sh lf lc mo ah) H → va_S (mo_fr g) s.heap H locs → W p l e (headSpec (wd yM_sort bM_sort 5 none) (rmD 0 0 0)).room s m ([.ref (g.2.2 0)]).toArray below meth c H locs 0 0 (MQ below (mm_Q g (fun v9 S9 => v9 = none ∧ S9 = (th, (k_sort ks), (nI 7462), rn, oc, hd, hs, se, bd, bs, dk, dp, ct, bo, wi, sh, lf, lc, mo, ah))) ([.ref (g.2.2 0)]).toArray s 0 0 (mo_fr g)) (F0 m 86 ls [])) → W p l e (headSpec (wd yM_sort bM_sort 5 none) (rmD 0 0 0)).room s m ([.ref (g.2.2 0)]).toArray below meth c H locs 0 0 (MQ below (mm_Q g (fun v9 S9 => v9 = none ∧ S9 = (th, (k_sort ks), (nI 7462), rn, oc, hd, hs, se, bd, bs, dk, dp, ct, bo, wi, sh, lf, lc, mo, ah))) ([.ref (g.2.2 0)]).toArray s 0 0 (mo_fr g)) (F0 m 10 ls []) := by
          intro j
          induction j with
          | zero =>
            intro   wks5 H locs ls hl hP hSS hj K
            refine lv_iload_n hx hb dM_sort_10 rfl (lv_at hl 0 rfl) ?_
            refine lv_aload_n hx hb dM_sort_11 rfl (lv_at hl 2 rfl) ?_
            refine va_get (D := g.1) (ci := 1) (v := .int (nI 7462)) (C := "HandTablesModel") (T := T_M) (N := 20) hx hb hts (fun w hw => wd_in (u_inM w hw)) hown hK hP 0 rfl rfl 2 (by decide) (hts _ (wd_in (gw_mem 459 rfl rfl))) (fun _ h => h) rfl dM_sort_12 ?_
            refine lv_icmp_ge (tgt := 86) hx hb dM_sort_15 (by decide) (fun hc6 => ?_) (fun hc6 => ?_)
            · have hlB := lv_sub hl [1, 2] rfl
              have hPB := hP
              have hSB := hSS
              simp only [kg_lp, k_ins] at K
              exact K  _ _ _ hlB hPB hSB 
            · exact absurd (by decide) hc6
          | succ j ih =>
            intro   wks5 H locs ls hl hP hSS hj K
            refine lv_iload_n hx hb dM_sort_10 rfl (lv_at hl 0 rfl) ?_
            refine lv_aload_n hx hb dM_sort_11 rfl (lv_at hl 2 rfl) ?_
            refine va_get (D := g.1) (ci := 1) (v := .int (nI 7462)) (C := "HandTablesModel") (T := T_M) (N := 20) hx hb hts (fun w hw => wd_in (u_inM w hw)) hown hK hP 0 rfl rfl 2 (by decide) (hts _ (wd_in (gw_mem 459 rfl rfl))) (fun _ h => h) rfl dM_sort_12 ?_
            refine lv_icmp_ge (tgt := 86) hx hb dM_sort_15 (by decide) (fun hc7 => ?_) (fun hc7 => ?_)
            · exact absurd hc7 (nI_ge (b := 7462) (by omega) (by decide))
            · refine lv_aload_n hx hb dM_sort_18 rfl (lv_at hl 2 rfl) ?_
              refine va_get (D := g.1) (ci := 1) (v := .ref (g.2.2 1)) (C := "HandTablesModel") (T := T_M) (N := 20) hx hb hts (fun w hw => wd_in (u_inM w hw)) hown hK hP 0 rfl rfl 1 (by decide) (hts _ (wd_in (gw_mem 458 rfl rfl))) (fun _ h => h) rfl dM_sort_19 ?_
              refine lv_iload_n hx hb dM_sort_22 rfl (lv_at hl 0 rfl) ?_
              refine va_iald hx hb hK hP 1 0 rfl rfl (vp_in_nI (by omega) (by decide)) dM_sort_23 ?_
              refine jt_topi (fun x8 ex8 => ?_)
              refine lv_istore_n (lv' := [(3, .int x8), (2, .int (nI (7462 - (j + 1)))), (1, .int (nI G)), (0, .ref (g.2.2 0))]) hx hb dM_sort_24 rfl hl (by decide) rfl (fun ls hl => ?_)
              refine lv_iload_n hx hb dM_sort_25 rfl (lv_at hl 1 rfl) ?_
              refine jt_topi (fun x9 ex9 => ?_)
              refine lv_istore (lv' := [(4, .int x9), (3, .int x8), (2, .int (nI (7462 - (j + 1)))), (1, .int (nI G)), (0, .ref (g.2.2 0))]) hx hb dM_sort_26 hl (by decide) rfl (fun ls hl => ?_)
              have hloop : ∀ (i : Nat) (A : Nat)  (wks10 : Nat → Int32) (H : Heap) (locs : List Loc) (ls : Array Slot), lv_has ls 5 [(4, .int (nI A)), (3, .int x8), (2, .int (nI (7462 - (j + 1)))), (1, .int (nI G)), (0, .ref (g.2.2 0))] → va_P g.1 cl_X (mo_V g th wks10 (nI 7462) rn oc hd hs se bd bs dk dp ct bo wi sh lf lc mo ah) H → va_S (mo_fr g) s.heap H locs → (A ≤ i) → (A ≤ 7461) → (∀  (H : Heap) (locs : List Loc) (ls : Array Slot), lv_has ls 5 [(4, .int (nI (ki_lp G x8 i A wks10).1)), (3, .int x8), (2, .int (nI (7462 - (j + 1)))), (1, .int (nI G)), (0, .ref (g.2.2 0))] → va_P g.1 cl_X (mo_V g th ((ki_lp G x8 i A wks10).2) (nI 7462) rn oc hd hs se bd bs dk dp ct bo wi sh lf lc mo ah) H → va_S (mo_fr g) s.heap H locs → W p l e (headSpec (wd yM_sort bM_sort 5 none) (rmD 0 0 0)).room s m ([.ref (g.2.2 0)]).toArray below meth c H locs 0 0 (MQ below (mm_Q g (fun v9 S9 => v9 = none ∧ S9 = (th, (k_sort ks), (nI 7462), rn, oc, hd, hs, se, bd, bs, dk, dp, ct, bo, wi, sh, lf, lc, mo, ah))) ([.ref (g.2.2 0)]).toArray s 0 0 (mo_fr g)) (F0 m 72 ls [])) → W p l e (headSpec (wd yM_sort bM_sort 5 none) (rmD 0 0 0)).room s m ([.ref (g.2.2 0)]).toArray below meth c H locs 0 0 (MQ below (mm_Q g (fun v9 S9 => v9 = none ∧ S9 = (th, (k_sort ks), (nI 7462), rn, oc, hd, hs, se, bd, bs, dk, dp, ct, bo, wi, sh, lf, lc, mo, ah))) ([.ref (g.2.2 0)]).toArray s 0 0 (mo_fr g)) (F0 m 28 ls []) := by
                intro i
                induction i with
                | zero =>
                  intro A  wks10 H locs ls hl hP hSS hi hA K
                  refine lv_iload hx hb dM_sort_28 (lv_at hl 0 rfl) ?_
                  refine lv_iload_n hx hb dM_sort_30 rfl (lv_at hl 3 rfl) ?_
                  refine lv_icmp_lt (tgt := 72) hx hb dM_sort_31 (by decide) (fun hc11 => ?_) (fun hc11 => ?_)
                  · have hlB := lv_sub hl [0, 1, 2, 3, 4] rfl
                    have hPB := hP
                    have hSB := hSS
                    simp only [ki_lp] at K
                    exact K  _ _ _ hlB hPB hSB 
                  · exact absurd (nI_lt (by have := kS_pos hc3 (by omega); omega) (by omega)) hc11
                | succ i ih =>
                  intro A  wks10 H locs ls hl hP hSS hi hA K
                  refine lv_iload hx hb dM_sort_28 (lv_at hl 0 rfl) ?_
                  refine lv_iload_n hx hb dM_sort_30 rfl (lv_at hl 3 rfl) ?_
                  refine lv_icmp_lt (tgt := 72) hx hb dM_sort_31 (by decide) (fun hc12 => ?_) (fun hc12 => ?_)
                  · have hlB := lv_sub hl [0, 1, 2, 3, 4] rfl
                    have hPB := hP
                    have hSB := hSS
                    simp only [ki_lp, if_pos hc12] at K
                    exact K  _ _ _ hlB hPB hSB 
                  · refine lv_aload_n hx hb dM_sort_34 rfl (lv_at hl 4 rfl) ?_
                    refine va_get (D := g.1) (ci := 1) (v := .ref (g.2.2 1)) (C := "HandTablesModel") (T := T_M) (N := 20) hx hb hts (fun w hw => wd_in (u_inM w hw)) hown hK hP 0 rfl rfl 1 (by decide) (hts _ (wd_in (gw_mem 458 rfl rfl))) (fun _ h => h) rfl dM_sort_35 ?_
                    refine lv_iload hx hb dM_sort_38 (lv_at hl 0 rfl) ?_
                    refine lv_iload_n hx hb dM_sort_40 rfl (lv_at hl 3 rfl) ?_
                    refine lv_isub hx hb dM_sort_41 ?_
                    refine va_iald hx hb hK hP 1 0 rfl rfl (by have hGA := ki_ge hc12 (by omega) hG; rw [pk_sub hGA]; exact vp_in_nI (by omega) (by decide)) dM_sort_42 ?_
                    refine lv_iload_n hx hb dM_sort_43 rfl (lv_at hl 1 rfl) ?_
                    refine lv_icmp_le (tgt := 72) hx hb dM_sort_44 (by decide) (fun hc13 => ?_) (fun hc13 => ?_)
                    · have hlB := lv_sub hl [0, 1, 2, 3, 4] rfl
                      have hPB := hP
                      have hSB := hSS
                      simp only [ki_lp, if_neg hc12, if_pos hc13] at K
                      exact K  _ _ _ hlB hPB hSB 
                    · refine lv_aload_n hx hb dM_sort_47 rfl (lv_at hl 4 rfl) ?_
                      refine va_get (D := g.1) (ci := 1) (v := .ref (g.2.2 1)) (C := "HandTablesModel") (T := T_M) (N := 20) hx hb hts (fun w hw => wd_in (u_inM w hw)) hown hK hP 0 rfl rfl 1 (by decide) (hts _ (wd_in (gw_mem 458 rfl rfl))) (fun _ h => h) rfl dM_sort_48 ?_
                      refine lv_iload hx hb dM_sort_51 (lv_at hl 0 rfl) ?_
                      refine lv_aload_n hx hb dM_sort_53 rfl (lv_at hl 4 rfl) ?_
                      refine va_get (D := g.1) (ci := 1) (v := .ref (g.2.2 1)) (C := "HandTablesModel") (T := T_M) (N := 20) hx hb hts (fun w hw => wd_in (u_inM w hw)) hown hK hP 0 rfl rfl 1 (by decide) (hts _ (wd_in (gw_mem 458 rfl rfl))) (fun _ h => h) rfl dM_sort_54 ?_
                      refine lv_iload hx hb dM_sort_57 (lv_at hl 0 rfl) ?_
                      refine lv_iload_n hx hb dM_sort_59 rfl (lv_at hl 3 rfl) ?_
                      refine lv_isub hx hb dM_sort_60 ?_
                      refine va_iald hx hb hK hP 1 0 rfl rfl (by have hGA := ki_ge hc12 (by omega) hG; rw [pk_sub hGA]; exact vp_in_nI (by omega) (by decide)) dM_sort_61 ?_
                      refine va_iast (x := (wks10 (((nI A) - (nI G)) : Int32).toNatClampNeg)) hx hb hK hP (mo_D hap) hSS 1 0 rfl rfl (vp_in_nI (by omega) (by decide)) dM_sort_62 (fun H locs hP _ hSS => ?_)
                      have hP : va_P g.1 cl_X (mo_V g th (upd wks10 ((nI A) : Int32).toNatClampNeg (wks10 (((nI A) - (nI G)) : Int32).toNatClampNeg)) (nI 7462) rn oc hd hs se bd bs dk dp ct bo wi sh lf lc mo ah) H := hP
                      refine lv_iload hx hb dM_sort_63 (lv_at hl 0 rfl) ?_
                      refine lv_iload_n hx hb dM_sort_65 rfl (lv_at hl 3 rfl) ?_
                      refine lv_isub hx hb dM_sort_66 ?_
                      refine jt_topi (fun x14 ex14 => ?_)
                      refine lv_istore (lv' := [(4, .int x14), (3, .int x8), (2, .int (nI (7462 - (j + 1)))), (1, .int (nI G)), (0, .ref (g.2.2 0))]) hx hb dM_sort_67 hl (by decide) rfl (fun ls hl => ?_)
                      refine lv_goto (tgt := 28) hx hb dM_sort_69 (by decide) ?_
                      have hGA := ki_ge hc12 (by omega) hG
                      have hG0 := kS_pos hc3 (by omega)
                      rw [pk_sub hGA] at ex14
                      have hlB := lv_sub hl [0, 1, 2, 3, 4] rfl
                      have hPB := hP
                      have hSB := hSS
                      subst ex14
                      simp only [ki_lp, if_neg hc12, if_neg hc13] at K
                      exact ih _  _ _ _ _ hlB hPB hSB (by omega) (by omega) K
              refine hloop (7462 - (j + 1)) (7462 - (j + 1))  wks5 _ _ ls (by have h9 := lv_sub hl [0, 1, 2, 3, 4] rfl; subst ex9; exact h9) hP hSS (Nat.le_refl _) (by omega) (fun  H locs ls hl hP hSS  => ?_)
              clear hloop
              obtain ⟨y15, ey15⟩ : ∃ z, (nI (ki_lp G x8 (7462 - (j + 1)) (7462 - (j + 1)) wks5).1) = z := ⟨_, rfl⟩
              rw [ey15] at hl
              refine lv_aload_n hx hb dM_sort_72 rfl (lv_at hl 4 rfl) ?_
              refine va_get (D := g.1) (ci := 1) (v := .ref (g.2.2 1)) (C := "HandTablesModel") (T := T_M) (N := 20) hx hb hts (fun w hw => wd_in (u_inM w hw)) hown hK hP 0 rfl rfl 1 (by decide) (hts _ (wd_in (gw_mem 458 rfl rfl))) (fun _ h => h) rfl dM_sort_73 ?_
              refine lv_iload hx hb dM_sort_76 (lv_at hl 0 rfl) ?_
              refine lv_iload_n hx hb dM_sort_78 rfl (lv_at hl 1 rfl) ?_
              refine va_iast (x := x8) hx hb hK hP (mo_D hap) hSS 1 0 rfl rfl (by subst_vars; exact vp_in_nI (Nat.lt_of_le_of_lt (ki_le _ _ _ _ _) (by omega)) (by decide)) dM_sort_79 (fun H locs hP _ hSS => ?_)
              have hP : va_P g.1 cl_X (mo_V g th (upd (ki_lp G x8 (7462 - (j + 1)) (7462 - (j + 1)) wks5).2 (y15 : Int32).toNatClampNeg x8) (nI 7462) rn oc hd hs se bd bs dk dp ct bo wi sh lf lc mo ah) H := hP
              refine jv_iinc (a := 1) hx hb dM_sort_80 hl (k := 2) rfl (by decide) (by decide) (fun x16 ex16 ls hl => ?_)
              have hl : lv_has ls 5 [(2, .int x16), (4, .int y15), (3, .int x8), (1, .int (nI G)), (0, .ref (g.2.2 0))] := hl
              refine lv_goto (tgt := 10) hx hb dM_sort_83 (by decide) ?_
              rw [nI_up (by omega)] at ex16
              have hlB := lv_sub hl [0, 3, 4] rfl
              have hPB := hP
              have hSB := hSS
              subst ex16 ey15 ex9 ex8
              simp only [kg_lp, k_ins] at K
              exact ih   _ _ _ _ hlB hPB hSB (by omega) K
        refine hloop (7462 - G)   wks2 _ _ ls (by have h9 := lv_sub hl [0, 1, 2] rfl; subst ex4; rw [show 7462 - (7462 - G) = G by omega]; exact h9) hP hSS (Nat.le_refl _) (fun  H locs ls hl hP hSS  => ?_)
        clear hloop
        refine lv_iload_n hx hb dM_sort_86 rfl (lv_at hl 0 rfl) ?_
        refine lv_iconst (v := 2) hx hb dM_sort_87 (by decide) ?_
        refine lv_icmp_le (tgt := 97) hx hb dM_sort_88 (by decide) (fun hc17 => ?_) (fun hc17 => ?_)
        · refine lv_iload_n hx hb dM_sort_97 rfl (lv_at hl 0 rfl) ?_
          refine lv_iconst (v := 1) hx hb dM_sort_98 (by decide) ?_
          refine lv_isub hx hb dM_sort_99 ?_
          refine jt_topi (fun x18 ex18 => ?_)
          refine lv_istore_n (lv' := [(1, .int x18), (0, .ref (g.2.2 0))]) hx hb dM_sort_100 rfl hl (by decide) rfl (fun ls hl => ?_)
          refine lv_goto (tgt := 4) hx hb dM_sort_101 (by decide) ?_
          rw [show nI G - 1 = nI (G - 1) from pk_sub (b := 1) (by have := kS_pos hc3 (by omega); omega)] at ex18
          have hG0 := kS_pos hc3 (by omega)
          have hlB := lv_sub hl [0, 1] rfl
          have hPB := hP
          have hSB := hSS
          subst ex18 ex4
          simp only [kS_lp, if_neg hc3, if_pos hc17] at K
          exact ih _  _ _ _ _ hlB hPB hSB (by omega) (by omega) K
        · refine lv_iload_n hx hb dM_sort_91 rfl (lv_at hl 0 rfl) ?_
          refine lv_iconst (v := 3) hx hb dM_sort_92 (by decide) ?_
          refine lv_idiv hx hb dM_sort_93 (by decide) ?_
          refine lv_goto (tgt := 100) hx hb dM_sort_94 (by decide) ?_
          refine jt_topi (fun x19 ex19 => ?_)
          refine lv_istore_n (lv' := [(1, .int x19), (0, .ref (g.2.2 0))]) hx hb dM_sort_100 rfl hl (by decide) rfl (fun ls hl => ?_)
          refine lv_goto (tgt := 4) hx hb dM_sort_101 (by decide) ?_
          rw [show nI G / 3 = nI (G / 3) from pk_div (d := 3) (by omega) (by omega) (by omega)] at ex19
          have hG0 := kS_pos hc3 (by omega)
          have hlB := lv_sub hl [0, 1] rfl
          have hPB := hP
          have hSB := hSS
          subst ex19 ex4
          simp only [kS_lp, if_neg hc3, if_neg hc17] at K
          exact ih _  _ _ _ _ hlB hPB hSB (by omega) (by omega) K
  refine hloop 3001 3000  ks _ _ ls (by have h9 := lv_sub hl [0, 1] rfl; subst ex1; exact h9) hP hSS (by decide) (by decide) (fun  H locs ls hl hP hSS  => ?_)
  clear hloop
  exact mm_vret (S := (th, (kS_lp 3001 3000 ks), (nI 7462), rn, oc, hd, hs, se, bd, bs, dk, dp, ct, bo, wi, sh, lf, lc, mo, ah)) hx hb hr hlk dM_sort_104 hP hSS (by exact ⟨by subst ex1; (try simp only [k_sort]) <;> rfl, by subst ex1; (try simp only [k_sort]) <;> rfl⟩)
