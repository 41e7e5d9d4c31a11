set_option maxHeartbeats 4000000 in
set_option maxRecDepth 100000 in
theorem cA_countBoards_0 (l : Launch) (g : xo_E) (T : Nat → Int64) (dk : Nat → Int32) (dn : Int32) (k : Int32) (w : Int32) (b : Int64) (f : Int64)  : pu_M l yA_countBoards bA_countBoards 14 (some .int) 6 [.ref (xo_t g), .int k, .int w, .long b, .long f, .int (nI 0)] (xo_F g T dk dn) (.int (g_cb T k w 0 b f)) := by
  refine Met.ofW (cc := bA_countBoards) (maxL := 14) (ret := (some .int)) (by decide) rfl ?_
  intro p e s m args below meth c s₁ BB hml hv
  obtain ⟨rfl, hB⟩ := hv
  have hx := BB.exec
  have hb := BB.bytes
  have hr := BB.returns
  have hlk := BB.notSynchronized
  have hts := atoms_spec (ws := wd yA_countBoards bA_countBoards 14 (some .int)) BB.pre
  have hown : s.vm.findClass "HandTables" = some m.cls := findClass_of_methodNamed BB.named
  have hS : CallFix p m c bA_countBoards 14 s _ (wd yA_countBoards bA_countBoards 14 (some .int)) "HandTables" := ⟨hx, hb, hml, hown, hts⟩
  obtain ⟨hTa, hEx, hP, hK⟩ := id hB
  obtain ⟨⟨t1, hT1⟩, ⟨t2, hT2⟩, ⟨t3, hT3⟩, ⟨t4, hT4⟩⟩ := id hTa
  have hl := lv_entry ([.ref (xo_t g), .int k, .int w, .long b, .long f, .int (nI 0)]) (n := 14) (Nat.le_of_ble_eq_true rfl)
  rw [lg_entry_eq]
  generalize (lg_sl ([.ref (xo_t g), .int k, .int w, .long b, .long f, .int (nI 0)]) ++ List.replicate (14 - (lg_sl ([.ref (xo_t g), .int k, .int w, .long b, .long f, .int (nI 0)])).length) Slot.unset).toArray = ls at hl ⊢
  have hl : lv_has ls 14 [(0, .ref (xo_t g)), (1, .int k), (2, .int w), (3, .long b), (5, .long f), (7, .int (nI 0))] := hl
  refine lv_iload hx hb dA_countBoards_0 (lv_at hl 5 rfl) ?_
  refine lv_if_gt (tgt := 24) hx hb dA_countBoards_2 (by decide) (fun hc1 => ?_) (fun hc1 => ?_)
  · exact absurd hc1 (by decide)
  · refine lv_iload_n hx hb dA_countBoards_5 rfl (lv_at hl 1 rfl) ?_
    refine lv_iload_n hx hb dA_countBoards_6 rfl (lv_at hl 2 rfl) ?_
    refine lv_aload_n hx hb dA_countBoards_7 rfl (lv_at hl 0 rfl) ?_
    refine lv_lload_n hx hb dA_countBoards_8 rfl (lv_at hl 3 rfl) ?_
    refine pu_S (cA_leadersOn l g T dk dn _) rfl kA_A_leadersOn hS bl_xo hB rfl ⟨Nat.le_of_ble_eq_true rfl, Nat.le_of_ble_eq_true rfl⟩ hl.1 rfl (Nat.le_of_ble_eq_true rfl) ⟨Nat.zero_le _, Nat.zero_le _⟩ dA_countBoards_9 ?_
    refine pu_S (cA_isOutcome l _ _ _) rfl kA_A_isOutcome hS bl_T trivial rfl ⟨Nat.le_of_ble_eq_true rfl, Nat.le_of_ble_eq_true rfl⟩ hl.1 rfl (Nat.le_of_ble_eq_true rfl) ⟨Nat.zero_le _, Nat.zero_le _⟩ dA_countBoards_12 ?_
    refine lv_if_eq (tgt := 22) hx hb dA_countBoards_15 (by decide) (fun hc2 => ?_) (fun hc2 => ?_)
    · refine lv_iconst (v := 0) hx hb dA_countBoards_22 (by decide) ?_
      exact pu_iret hx hb hr hlk dA_countBoards_23 (by first | contradiction | ((try simp only [g_cb, if_pos hc2]) <;> rfl))
    · refine lv_iconst (v := 1) hx hb dA_countBoards_18 (by decide) ?_
      refine lv_goto (tgt := 23) hx hb dA_countBoards_19 (by decide) ?_
      exact pu_iret hx hb hr hlk dA_countBoards_23 (by first | contradiction | ((try simp only [g_cb, if_neg hc2]) <;> rfl))
set_option maxHeartbeats 4000000 in
set_option maxRecDepth 100000 in
theorem cA_countBoards_1 (l : Launch) (g : xo_E) (T : Nat → Int64) (dk : Nat → Int32) (dn : Int32) (k : Int32) (w : Int32) (b : Int64) (f : Int64)  : pu_M l yA_countBoards bA_countBoards 14 (some .int) 7 [.ref (xo_t g), .int k, .int w, .long b, .long f, .int (nI 1)] (xo_F g T dk dn) (.int (g_cb T k w 1 b f)) := by
  refine Met.ofW (cc := bA_countBoards) (maxL := 14) (ret := (some .int)) (by decide) rfl ?_
  intro p e s m args below meth c s₁ BB hml hv
  obtain ⟨rfl, hB⟩ := hv
  have hx := BB.exec
  have hb := BB.bytes
  have hr := BB.returns
  have hlk := BB.notSynchronized
  have hts := atoms_spec (ws := wd yA_countBoards bA_countBoards 14 (some .int)) BB.pre
  have hown : s.vm.findClass "HandTables" = some m.cls := findClass_of_methodNamed BB.named
  have hS : CallFix p m c bA_countBoards 14 s _ (wd yA_countBoards bA_countBoards 14 (some .int)) "HandTables" := ⟨hx, hb, hml, hown, hts⟩
  obtain ⟨hTa, hEx, hP, hK⟩ := id hB
  obtain ⟨⟨t1, hT1⟩, ⟨t2, hT2⟩, ⟨t3, hT3⟩, ⟨t4, hT4⟩⟩ := id hTa
  have hl := lv_entry ([.ref (xo_t g), .int k, .int w, .long b, .long f, .int (nI 1)]) (n := 14) (Nat.le_of_ble_eq_true rfl)
  rw [lg_entry_eq]
  generalize (lg_sl ([.ref (xo_t g), .int k, .int w, .long b, .long f, .int (nI 1)]) ++ List.replicate (14 - (lg_sl ([.ref (xo_t g), .int k, .int w, .long b, .long f, .int (nI 1)])).length) Slot.unset).toArray = ls at hl ⊢
  have hl : lv_has ls 14 [(0, .ref (xo_t g)), (1, .int k), (2, .int w), (3, .long b), (5, .long f), (7, .int (nI 1))] := hl
  refine lv_iload hx hb dA_countBoards_0 (lv_at hl 5 rfl) ?_
  refine lv_if_gt (tgt := 24) hx hb dA_countBoards_2 (by decide) (fun hc1 => ?_) (fun hc1 => ?_)
  · refine lv_iconst (v := 0) hx hb dA_countBoards_24 (by decide) ?_
    refine jt_topi (fun x2 ex2 => ?_)
    refine lv_istore (lv' := [(8, .int x2), (0, .ref (xo_t g)), (1, .int k), (2, .int w), (3, .long b), (5, .long f), (7, .int (nI 1))]) hx hb dA_countBoards_25 hl (by decide) rfl (fun ls hl => ?_)
    refine lv_lload hx hb dA_countBoards_27 (lv_at hl 5 rfl) ?_
    refine jt_topl (fun x3 ex3 => ?_)
    refine lv_lstore (lv' := [(9, .long x3), (8, .int x2), (0, .ref (xo_t g)), (1, .int k), (2, .int w), (3, .long b), (5, .long f), (7, .int (nI 1))]) hx hb dA_countBoards_29 hl (by decide) rfl (fun ls hl => ?_)
    refine lv_iconst (v := 0) hx hb dA_countBoards_31 (by decide) ?_
    refine jt_topi (fun x4 ex4 => ?_)
    refine lv_istore (lv' := [(11, .int x4), (9, .long x3), (8, .int x2), (0, .ref (xo_t g)), (1, .int k), (2, .int w), (3, .long b), (5, .long f), (7, .int (nI 1))]) hx hb dA_countBoards_32 hl (by decide) rfl (fun ls hl => ?_)
    have hloop : ∀ (n : Nat) (a : Int32) (r : Int64) (ls : Array Slot), lv_has ls 14 [(11, .int (nI (52 - n))), (8, .int a), (9, .long r), (0, .ref (xo_t g)), (1, .int k), (2, .int w), (3, .long b), (7, .int (nI 1))] → (n ≤ 52) → (∀ ls : Array Slot, lv_has ls 14 [(8, .int (cb_lp (g_cb T k w 0) b n a r))] → W p l e (headSpec (wd yA_countBoards bA_countBoards 14 (some .int)) (rmD 7 0 0)).room s m ([.ref (xo_t g), .int k, .int w, .long b, .long f, .int (nI 1)]).toArray below meth c s.heap [] 0 0 (MQ below (pu_Q (.int (g_cb T k w 1 b f))) ([.ref (xo_t g), .int k, .int w, .long b, .long f, .int (nI 1)]).toArray s 0 0 (fun _ => False)) (F0 m 95 ls [])) → W p l e (headSpec (wd yA_countBoards bA_countBoards 14 (some .int)) (rmD 7 0 0)).room s m ([.ref (xo_t g), .int k, .int w, .long b, .long f, .int (nI 1)]).toArray below meth c s.heap [] 0 0 (MQ below (pu_Q (.int (g_cb T k w 1 b f))) ([.ref (xo_t g), .int k, .int w, .long b, .long f, .int (nI 1)]).toArray s 0 0 (fun _ => False)) (F0 m 34 ls []) := by
      intro n
      induction n with
      | zero =>
        intro a r ls hl hn K
        refine lv_iload hx hb dA_countBoards_34 (lv_at hl 0 rfl) ?_
        refine lv_bipush (v := 52) hx hb dA_countBoards_36 (by decide) ?_
        refine lv_icmp_ge (tgt := 95) hx hb dA_countBoards_38 (by decide) (fun hc5 => ?_) (fun hc5 => ?_)
        · simp only [cb_lp] at K
          exact K _ (lv_sub hl [1] rfl)
        · exact absurd (by decide) hc5
      | succ n ih =>
        intro a r ls hl hn K
        refine lv_iload hx hb dA_countBoards_34 (lv_at hl 0 rfl) ?_
        refine lv_bipush (v := 52) hx hb dA_countBoards_36 (by decide) ?_
        refine lv_icmp_ge (tgt := 95) hx hb dA_countBoards_38 (by decide) (fun hc6 => ?_) (fun hc6 => ?_)
        · exact absurd hc6 (nI_ge (b := 52) (by omega) (by decide))
        · refine lv_lload hx hb dA_countBoards_41 (lv_at hl 2 rfl) ?_
          refine lv_lconst (v := 1) hx hb dA_countBoards_43 (by decide) ?_
          refine lv_iload hx hb dA_countBoards_44 (lv_at hl 0 rfl) ?_
          refine jv_lshl hx hb dA_countBoards_46 ?_
          refine lv_land hx hb dA_countBoards_47 ?_
          refine jt_topl (fun x7 ex7 => ?_)
          refine lv_lstore (lv' := [(12, .long x7), (11, .int (nI (52 - (n + 1)))), (8, .int a), (9, .long r), (0, .ref (xo_t g)), (1, .int k), (2, .int w), (3, .long b), (7, .int (nI 1))]) hx hb dA_countBoards_48 hl (by decide) rfl (fun ls hl => ?_)
          refine lv_lload hx hb dA_countBoards_50 (lv_at hl 0 rfl) ?_
          refine lv_lconst (v := 0) hx hb dA_countBoards_52 (by decide) ?_
          refine jv_lceq (tgt := 89) hx hb dA_countBoards_53 dA_countBoards_54 (by decide) (fun hc8 => ?_) (fun hc8 => ?_)
          · refine jv_iinc (a := 1) hx hb dA_countBoards_89 hl (k := 1) rfl (by decide) (by decide) (fun x9 ex9 ls hl => ?_)
            have hl : lv_has ls 14 [(11, .int x9), (12, .long x7), (8, .int a), (9, .long r), (0, .ref (xo_t g)), (1, .int k), (2, .int w), (3, .long b), (7, .int (nI 1))] := hl
            refine lv_goto (tgt := 34) hx hb dA_countBoards_92 (by decide) ?_
            rw [nI_up (by omega)] at ex9
            subst ex9 ex7
            simp only [cb_lp, if_pos hc8] at K
            exact ih _ _ ls (lv_sub hl [0, 2, 3, 4, 5, 6, 7, 8] rfl) (by omega) K
          · refine lv_lload hx hb dA_countBoards_57 (lv_at hl 3 rfl) ?_
            refine lv_lload hx hb dA_countBoards_59 (lv_at hl 0 rfl) ?_
            refine lv_ldc2 (v := (-1)) hx hb hown (hts _ (wd_in (gw_mem 183 rfl rfl))) dA_countBoards_61 ?_
            refine lv_lxor hx hb dA_countBoards_64 ?_
            refine lv_land hx hb dA_countBoards_65 ?_
            refine jt_topl (fun x10 ex10 => ?_)
            refine lv_lstore (lv' := [(9, .long x10), (12, .long x7), (11, .int (nI (52 - (n + 1)))), (8, .int a), (0, .ref (xo_t g)), (1, .int k), (2, .int w), (3, .long b), (7, .int (nI 1))]) hx hb dA_countBoards_66 hl (by decide) rfl (fun ls hl => ?_)
            refine lv_iload hx hb dA_countBoards_68 (lv_at hl 3 rfl) ?_
            refine lv_aload_n hx hb dA_countBoards_70 rfl (lv_at hl 4 rfl) ?_
            refine lv_iload_n hx hb dA_countBoards_71 rfl (lv_at hl 5 rfl) ?_
            refine lv_iload_n hx hb dA_countBoards_72 rfl (lv_at hl 6 rfl) ?_
            refine lv_lload_n hx hb dA_countBoards_73 rfl (lv_at hl 7 rfl) ?_
            refine lv_lload hx hb dA_countBoards_74 (lv_at hl 1 rfl) ?_
            refine lv_lor hx hb dA_countBoards_76 ?_
            refine lv_lload hx hb dA_countBoards_77 (lv_at hl 0 rfl) ?_
            refine lv_iload hx hb dA_countBoards_79 (lv_at hl 8 rfl) ?_
            refine lv_iconst (v := 1) hx hb dA_countBoards_81 (by decide) ?_
            refine lv_isub hx hb dA_countBoards_82 ?_
            refine lv_topi (fun xm exm => ?_)
            have exm : xm = nI 0 := exm.trans (by decide)
            subst exm
            refine pu_S (cA_countBoards_0 l g T dk dn _ _ _ _) rfl kA_A_countBoards hS bl_xo hB rfl ⟨Nat.le_of_ble_eq_true rfl, Nat.le_of_ble_eq_true rfl⟩ hl.1 rfl (Nat.le_of_ble_eq_true rfl) ⟨Nat.zero_le _, Nat.zero_le _⟩ dA_countBoards_83 ?_
            refine lv_iadd hx hb dA_countBoards_86 ?_
            refine jt_topi (fun x11 ex11 => ?_)
            refine lv_istore (lv' := [(8, .int x11), (9, .long x10), (12, .long x7), (11, .int (nI (52 - (n + 1)))), (0, .ref (xo_t g)), (1, .int k), (2, .int w), (3, .long b), (7, .int (nI 1))]) hx hb dA_countBoards_87 hl (by decide) rfl (fun ls hl => ?_)
            refine jv_iinc (a := 1) hx hb dA_countBoards_89 hl (k := 3) rfl (by decide) (by decide) (fun x12 ex12 ls hl => ?_)
            have hl : lv_has ls 14 [(11, .int x12), (8, .int x11), (9, .long x10), (12, .long x7), (0, .ref (xo_t g)), (1, .int k), (2, .int w), (3, .long b), (7, .int (nI 1))] := hl
            refine lv_goto (tgt := 34) hx hb dA_countBoards_92 (by decide) ?_
            rw [nI_up (by omega)] at ex12
            subst ex12 ex11 ex10 ex7
            simp only [cb_lp, if_neg hc8] at K
            exact ih _ _ ls (lv_sub hl [0, 1, 2, 4, 5, 6, 7, 8] rfl) (by omega) K
    refine hloop 52 x2 x3 ls (by have h9 := lv_sub hl [0, 2, 1, 3, 4, 5, 6, 8] rfl; subst ex4; exact h9) (by decide) (fun ls hl => ?_)
    clear hloop
    obtain ⟨y13, ey13⟩ : ∃ z, (cb_lp (g_cb T k w 0) b 52 x2 x3) = z := ⟨_, rfl⟩
    rw [ey13] at hl
    refine lv_iload hx hb dA_countBoards_95 (lv_at hl 0 rfl) ?_
    exact pu_iret hx hb hr hlk dA_countBoards_97 (by subst ey13 ex4 ex3 ex2; rfl)
  · exact absurd (by decide) hc1
set_option maxHeartbeats 4000000 in
set_option maxRecDepth 100000 in
theorem cA_countBoards_2 (l : Launch) (g : xo_E) (T : Nat → Int64) (dk : Nat → Int32) (dn : Int32) (k : Int32) (w : Int32) (b : Int64) (f : Int64)  : pu_M l yA_countBoards bA_countBoards 14 (some .int) 8 [.ref (xo_t g), .int k, .int w, .long b, .long f, .int (nI 2)] (xo_F g T dk dn) (.int (g_cb T k w 2 b f)) := by
  refine Met.ofW (cc := bA_countBoards) (maxL := 14) (ret := (some .int)) (by decide) rfl ?_
  intro p e s m args below meth c s₁ BB hml hv
  obtain ⟨rfl, hB⟩ := hv
  have hx := BB.exec
  have hb := BB.bytes
  have hr := BB.returns
  have hlk := BB.notSynchronized
  have hts := atoms_spec (ws := wd yA_countBoards bA_countBoards 14 (some .int)) BB.pre
  have hown : s.vm.findClass "HandTables" = some m.cls := findClass_of_methodNamed BB.named
  have hS : CallFix p m c bA_countBoards 14 s _ (wd yA_countBoards bA_countBoards 14 (some .int)) "HandTables" := ⟨hx, hb, hml, hown, hts⟩
  obtain ⟨hTa, hEx, hP, hK⟩ := id hB
  obtain ⟨⟨t1, hT1⟩, ⟨t2, hT2⟩, ⟨t3, hT3⟩, ⟨t4, hT4⟩⟩ := id hTa
  have hl := lv_entry ([.ref (xo_t g), .int k, .int w, .long b, .long f, .int (nI 2)]) (n := 14) (Nat.le_of_ble_eq_true rfl)
  rw [lg_entry_eq]
  generalize (lg_sl ([.ref (xo_t g), .int k, .int w, .long b, .long f, .int (nI 2)]) ++ List.replicate (14 - (lg_sl ([.ref (xo_t g), .int k, .int w, .long b, .long f, .int (nI 2)])).length) Slot.unset).toArray = ls at hl ⊢
  have hl : lv_has ls 14 [(0, .ref (xo_t g)), (1, .int k), (2, .int w), (3, .long b), (5, .long f), (7, .int (nI 2))] := hl
  refine lv_iload hx hb dA_countBoards_0 (lv_at hl 5 rfl) ?_
  refine lv_if_gt (tgt := 24) hx hb dA_countBoards_2 (by decide) (fun hc1 => ?_) (fun hc1 => ?_)
  · refine lv_iconst (v := 0) hx hb dA_countBoards_24 (by decide) ?_
    refine jt_topi (fun x2 ex2 => ?_)
    refine lv_istore (lv' := [(8, .int x2), (0, .ref (xo_t g)), (1, .int k), (2, .int w), (3, .long b), (5, .long f), (7, .int (nI 2))]) hx hb dA_countBoards_25 hl (by decide) rfl (fun ls hl => ?_)
    refine lv_lload hx hb dA_countBoards_27 (lv_at hl 5 rfl) ?_
    refine jt_topl (fun x3 ex3 => ?_)
    refine lv_lstore (lv' := [(9, .long x3), (8, .int x2), (0, .ref (xo_t g)), (1, .int k), (2, .int w), (3, .long b), (5, .long f), (7, .int (nI 2))]) hx hb dA_countBoards_29 hl (by decide) rfl (fun ls hl => ?_)
    refine lv_iconst (v := 0) hx hb dA_countBoards_31 (by decide) ?_
    refine jt_topi (fun x4 ex4 => ?_)
    refine lv_istore (lv' := [(11, .int x4), (9, .long x3), (8, .int x2), (0, .ref (xo_t g)), (1, .int k), (2, .int w), (3, .long b), (5, .long f), (7, .int (nI 2))]) hx hb dA_countBoards_32 hl (by decide) rfl (fun ls hl => ?_)
    have hloop : ∀ (n : Nat) (a : Int32) (r : Int64) (ls : Array Slot), lv_has ls 14 [(11, .int (nI (52 - n))), (8, .int a), (9, .long r), (0, .ref (xo_t g)), (1, .int k), (2, .int w), (3, .long b), (7, .int (nI 2))] → (n ≤ 52) → (∀ ls : Array Slot, lv_has ls 14 [(8, .int (cb_lp (g_cb T k w 1) b n a r))] → W p l e (headSpec (wd yA_countBoards bA_countBoards 14 (some .int)) (rmD 8 0 0)).room s m ([.ref (xo_t g), .int k, .int w, .long b, .long f, .int (nI 2)]).toArray below meth c s.heap [] 0 0 (MQ below (pu_Q (.int (g_cb T k w 2 b f))) ([.ref (xo_t g), .int k, .int w, .long b, .long f, .int (nI 2)]).toArray s 0 0 (fun _ => False)) (F0 m 95 ls [])) → W p l e (headSpec (wd yA_countBoards bA_countBoards 14 (some .int)) (rmD 8 0 0)).room s m ([.ref (xo_t g), .int k, .int w, .long b, .long f, .int (nI 2)]).toArray below meth c s.heap [] 0 0 (MQ below (pu_Q (.int (g_cb T k w 2 b f))) ([.ref (xo_t g), .int k, .int w, .long b, .long f, .int (nI 2)]).toArray s 0 0 (fun _ => False)) (F0 m 34 ls []) := by
      intro n
      induction n with
      | zero =>
        intro a r ls hl hn K
        refine lv_iload hx hb dA_countBoards_34 (lv_at hl 0 rfl) ?_
        refine lv_bipush (v := 52) hx hb dA_countBoards_36 (by decide) ?_
        refine lv_icmp_ge (tgt := 95) hx hb dA_countBoards_38 (by decide) (fun hc5 => ?_) (fun hc5 => ?_)
        · simp only [cb_lp] at K
          exact K _ (lv_sub hl [1] rfl)
        · exact absurd (by decide) hc5
      | succ n ih =>
        intro a r ls hl hn K
        refine lv_iload hx hb dA_countBoards_34 (lv_at hl 0 rfl) ?_
        refine lv_bipush (v := 52) hx hb dA_countBoards_36 (by decide) ?_
        refine lv_icmp_ge (tgt := 95) hx hb dA_countBoards_38 (by decide) (fun hc6 => ?_) (fun hc6 => ?_)
        · exact absurd hc6 (nI_ge (b := 52) (by omega) (by decide))
        · refine lv_lload hx hb dA_countBoards_41 (lv_at hl 2 rfl) ?_
          refine lv_lconst (v := 1) hx hb dA_countBoards_43 (by decide) ?_
          refine lv_iload hx hb dA_countBoards_44 (lv_at hl 0 rfl) ?_
          refine jv_lshl hx hb dA_countBoards_46 ?_
          refine lv_land hx hb dA_countBoards_47 ?_
          refine jt_topl (fun x7 ex7 => ?_)
          refine lv_lstore (lv' := [(12, .long x7), (11, .int (nI (52 - (n + 1)))), (8, .int a), (9, .long r), (0, .ref (xo_t g)), (1, .int k), (2, .int w), (3, .long b), (7, .int (nI 2))]) hx hb dA_countBoards_48 hl (by decide) rfl (fun ls hl => ?_)
          refine lv_lload hx hb dA_countBoards_50 (lv_at hl 0 rfl) ?_
          refine lv_lconst (v := 0) hx hb dA_countBoards_52 (by decide) ?_
          refine jv_lceq (tgt := 89) hx hb dA_countBoards_53 dA_countBoards_54 (by decide) (fun hc8 => ?_) (fun hc8 => ?_)
          · refine jv_iinc (a := 1) hx hb dA_countBoards_89 hl (k := 1) rfl (by decide) (by decide) (fun x9 ex9 ls hl => ?_)
            have hl : lv_has ls 14 [(11, .int x9), (12, .long x7), (8, .int a), (9, .long r), (0, .ref (xo_t g)), (1, .int k), (2, .int w), (3, .long b), (7, .int (nI 2))] := hl
            refine lv_goto (tgt := 34) hx hb dA_countBoards_92 (by decide) ?_
            rw [nI_up (by omega)] at ex9
            subst ex9 ex7
            simp only [cb_lp, if_pos hc8] at K
            exact ih _ _ ls (lv_sub hl [0, 2, 3, 4, 5, 6, 7, 8] rfl) (by omega) K
          · refine lv_lload hx hb dA_countBoards_57 (lv_at hl 3 rfl) ?_
            refine lv_lload hx hb dA_countBoards_59 (lv_at hl 0 rfl) ?_
            refine lv_ldc2 (v := (-1)) hx hb hown (hts _ (wd_in (gw_mem 183 rfl rfl))) dA_countBoards_61 ?_
            refine lv_lxor hx hb dA_countBoards_64 ?_
            refine lv_land hx hb dA_countBoards_65 ?_
            refine jt_topl (fun x10 ex10 => ?_)
            refine lv_lstore (lv' := [(9, .long x10), (12, .long x7), (11, .int (nI (52 - (n + 1)))), (8, .int a), (0, .ref (xo_t g)), (1, .int k), (2, .int w), (3, .long b), (7, .int (nI 2))]) hx hb dA_countBoards_66 hl (by decide) rfl (fun ls hl => ?_)
            refine lv_iload hx hb dA_countBoards_68 (lv_at hl 3 rfl) ?_
            refine lv_aload_n hx hb dA_countBoards_70 rfl (lv_at hl 4 rfl) ?_
            refine lv_iload_n hx hb dA_countBoards_71 rfl (lv_at hl 5 rfl) ?_
            refine lv_iload_n hx hb dA_countBoards_72 rfl (lv_at hl 6 rfl) ?_
            refine lv_lload_n hx hb dA_countBoards_73 rfl (lv_at hl 7 rfl) ?_
            refine lv_lload hx hb dA_countBoards_74 (lv_at hl 1 rfl) ?_
            refine lv_lor hx hb dA_countBoards_76 ?_
            refine lv_lload hx hb dA_countBoards_77 (lv_at hl 0 rfl) ?_
            refine lv_iload hx hb dA_countBoards_79 (lv_at hl 8 rfl) ?_
            refine lv_iconst (v := 1) hx hb dA_countBoards_81 (by decide) ?_
            refine lv_isub hx hb dA_countBoards_82 ?_
            refine lv_topi (fun xm exm => ?_)
            have exm : xm = nI 1 := exm.trans (by decide)
            subst exm
            refine pu_S (cA_countBoards_1 l g T dk dn _ _ _ _) rfl kA_A_countBoards hS bl_xo hB rfl ⟨Nat.le_of_ble_eq_true rfl, Nat.le_of_ble_eq_true rfl⟩ hl.1 rfl (Nat.le_of_ble_eq_true rfl) ⟨Nat.zero_le _, Nat.zero_le _⟩ dA_countBoards_83 ?_
            refine lv_iadd hx hb dA_countBoards_86 ?_
            refine jt_topi (fun x11 ex11 => ?_)
            refine lv_istore (lv' := [(8, .int x11), (9, .long x10), (12, .long x7), (11, .int (nI (52 - (n + 1)))), (0, .ref (xo_t g)), (1, .int k), (2, .int w), (3, .long b), (7, .int (nI 2))]) hx hb dA_countBoards_87 hl (by decide) rfl (fun ls hl => ?_)
            refine jv_iinc (a := 1) hx hb dA_countBoards_89 hl (k := 3) rfl (by decide) (by decide) (fun x12 ex12 ls hl => ?_)
            have hl : lv_has ls 14 [(11, .int x12), (8, .int x11), (9, .long x10), (12, .long x7), (0, .ref (xo_t g)), (1, .int k), (2, .int w), (3, .long b), (7, .int (nI 2))] := hl
            refine lv_goto (tgt := 34) hx hb dA_countBoards_92 (by decide) ?_
            rw [nI_up (by omega)] at ex12
            subst ex12 ex11 ex10 ex7
            simp only [cb_lp, if_neg hc8] at K
            exact ih _ _ ls (lv_sub hl [0, 1, 2, 4, 5, 6, 7, 8] rfl) (by omega) K
    refine hloop 52 x2 x3 ls (by have h9 := lv_sub hl [0, 2, 1, 3, 4, 5, 6, 8] rfl; subst ex4; exact h9) (by decide) (fun ls hl => ?_)
    clear hloop
    obtain ⟨y13, ey13⟩ : ∃ z, (cb_lp (g_cb T k w 1) b 52 x2 x3) = z := ⟨_, rfl⟩
    rw [ey13] at hl
    refine lv_iload hx hb dA_countBoards_95 (lv_at hl 0 rfl) ?_
    exact pu_iret hx hb hr hlk dA_countBoards_97 (by subst ey13 ex4 ex3 ex2; rfl)
  · exact absurd (by decide) hc1
