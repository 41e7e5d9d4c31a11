/-! the value of some cards -/
def fi (k : Int32) : Int32 := l_FIRST.getD k.toNatClampNeg 0
def f_pairs (o t : Int64) : Int32 :=
  if f_without t (f_highest t) = 0 then fi 1 + f_highest t * 220 + f_placeOf (f_without o (f_highest t)) 3
  else fi 2 + f_placeOf t 2 * 11 + f_placeOf (f_without (f_without o (f_highest t)) (f_highest (f_without t (f_highest t)))) 1
def v_3 (s o t h : Int64) : Int32 :=
  if s = 0 then
    if f_straights o = 0 then
      if h = 0 then if t = 0 then fi 0 + f_pbs o else f_pairs o t
      else fi 3 + f_highest h * 66 + f_placeOf (f_without o (f_highest h)) 2
    else fi 4 + f_highest (f_straights o)
  else fi 5 + f_pbs s
def v_2 (s o t h f : Int64) : Int32 :=
  if f_straights s = 0 then
    if f = 0 then
      if h = 0 then v_3 s o t h
      else if f_without t (f_highest h) = 0 then v_3 s o t h else fi 6 + f_highest h * 12 + f_placeOf (f_without t (f_highest h)) 1
    else fi 7 + f_highest f * 12 + f_placeOf (f_without o (f_highest f)) 1
  else fi 8 + f_highest (f_straights s)
def v_1 (s a b c d : Int64) : Int32 := v_2 s (a ||| b ||| c ||| d) (a &&& b ||| c &&& d ||| (a ||| b) &&& (c ||| d)) (a &&& b &&& (c ||| d) ||| c &&& d &&& (a ||| b)) (a &&& b &&& c &&& d)
def f_valueOf (x : Int64) : Int32 := v_1 (f_suited x) (x &&& 300239975158033) (ju x 1 &&& 300239975158033) (ju x 2 &&& 300239975158033) (ju x 3 &&& 300239975158033)
theorem rk_m (x : Int64) : rk (x &&& 300239975158033) := by
  unfold rk
  rw [Int64.and_assoc, Int64.and_self]
theorem rk_or {x y : Int64} (hx : rk x) (hy : rk y) : rk (x ||| y) := by
  unfold rk at hx hy ⊢
  apply Int64.toBitVec_inj.mp
  have h1 := congrArg Int64.toBitVec hx
  have h2 := congrArg Int64.toBitVec hy
  simp only [Int64.toBitVec_and, Int64.toBitVec_or] at h1 h2 ⊢
  apply BitVec.eq_of_getLsbD_eq
  intro i hi
  have g1 := congrArg (fun z => BitVec.getLsbD z i) h1
  have g2 := congrArg (fun z => BitVec.getLsbD z i) h2
  simp only [BitVec.getLsbD_and] at g1 g2
  simp only [BitVec.getLsbD_and, BitVec.getLsbD_or]
  rw [← g1, ← g2]
  cases x.toBitVec.getLsbD i <;> cases y.toBitVec.getLsbD i <;> simp
theorem rk_z : rk 0 := by unfold rk; decide +kernel
theorem ju4_ck : ck_B (fun m => decide (ju (sp m) 4 &&& 300239975158033 = ju (sp m) 4)) 13 0 = true := by decide +kernel
theorem rk_ju {x : Int64} (h : rk x) : rk (ju x 4) := by
  obtain ⟨m, hm, rfl⟩ := rk_sp h
  have h := ck_of 13 0 ju4_ck m (Nat.zero_le _) (by omega)
  simp only [decide_eq_true_eq] at h
  exact h
theorem rk_wo {x : Int64} (k : Int32) (h : rk x) : rk (f_without x k) := rk_or (rk_and _ h) (rk_and _ (rk_ju h))
theorem rk_su (x : Int64) : rk (f_suited x) := by
  have key : ∀ n, rk (s_lp x n) := by
    intro n
    induction n with
    | zero => exact rk_z
    | succ n ih =>
      unfold s_lp
      split
      · exact ih
      · exact rk_m _
  exact key 4
theorem in_10 {k : Int32} (h : vp_in k 10) : vp_in k l_FIRST.length := h
set_option maxHeartbeats 4000000 in
set_option maxRecDepth 100000 in
theorem cA_pairsValue (l : Launch) (o : Int64) (t : Int64) (ho : rk o) (ht : rk t) : pu_M l yA_pairsValue bA_pairsValue 10 (some .int) 3 [.long o, .long t] ta_F (.int (f_pairs o t)) := by
  refine Met.ofW (cc := bA_pairsValue) (maxL := 10) (ret := (some .int)) (by decide) rfl ?_
  intro p e s m args below meth c s₁ BB hml hv
  obtain ⟨rfl, hB⟩ := hv
  have hx := BB.exec
  have hb := BB.bytes
  have hr := BB.returns
  have hlk := BB.notSynchronized
  have hts := atoms_spec (ws := wd yA_pairsValue bA_pairsValue 10 (some .int)) BB.pre
  have hown : s.vm.findClass "HandTables" = some m.cls := findClass_of_methodNamed BB.named
  have hS : CallFix p m c bA_pairsValue 10 s _ (wd yA_pairsValue bA_pairsValue 10 (some .int)) "HandTables" := ⟨hx, hb, hml, hown, hts⟩
  obtain ⟨⟨t1, hT1⟩, ⟨t2, hT2⟩, ⟨t3, hT3⟩, ⟨t4, hT4⟩⟩ := id hB
  have hl := lv_entry ([.long o, .long t]) (n := 10) (Nat.le_of_ble_eq_true rfl)
  rw [lg_entry_eq]
  generalize (lg_sl ([.long o, .long t]) ++ List.replicate (10 - (lg_sl ([.long o, .long t])).length) Slot.unset).toArray = ls at hl ⊢
  have hl : lv_has ls 10 [(0, .long o), (2, .long t)] := hl
  refine lv_lload_n hx hb dA_pairsValue_0 rfl (lv_at hl 1 rfl) ?_
  refine pu_S (cA_highest l _) rfl kA_A_highest hS bl_T trivial rfl ⟨Nat.le_of_ble_eq_true rfl, Nat.le_of_ble_eq_true rfl⟩ hl.1 rfl (Nat.le_of_ble_eq_true rfl) ⟨Nat.zero_le _, Nat.zero_le _⟩ dA_pairsValue_1 ?_
  refine lv_topi (fun x1 ex1 => ?_)
  refine lv_istore (lv' := [(4, .int x1), (0, .long o), (2, .long t)]) hx hb dA_pairsValue_4 hl (by decide) rfl (fun ls hl => ?_)
  refine lv_lload_n hx hb dA_pairsValue_6 rfl (lv_at hl 1 rfl) ?_
  refine lv_iload hx hb dA_pairsValue_7 (lv_at hl 0 rfl) ?_
  refine pu_S (cA_without l _ _) rfl kA_A_without hS bl_T trivial rfl ⟨Nat.le_of_ble_eq_true rfl, Nat.le_of_ble_eq_true rfl⟩ hl.1 rfl (Nat.le_of_ble_eq_true rfl) ⟨Nat.zero_le _, Nat.zero_le _⟩ dA_pairsValue_9 ?_
  refine lv_topl (fun x2 ex2 => ?_)
  refine lv_lstore (lv' := [(5, .long x2), (4, .int x1), (0, .long o), (2, .long t)]) hx hb dA_pairsValue_12 hl (by decide) rfl (fun ls hl => ?_)
  refine lv_lload_n hx hb dA_pairsValue_14 rfl (lv_at hl 3 rfl) ?_
  refine lv_iload hx hb dA_pairsValue_15 (lv_at hl 1 rfl) ?_
  refine pu_S (cA_without l _ _) rfl kA_A_without hS bl_T trivial rfl ⟨Nat.le_of_ble_eq_true rfl, Nat.le_of_ble_eq_true rfl⟩ hl.1 rfl (Nat.le_of_ble_eq_true rfl) ⟨Nat.zero_le _, Nat.zero_le _⟩ dA_pairsValue_17 ?_
  refine lv_topl (fun x3 ex3 => ?_)
  refine lv_lstore (lv' := [(7, .long x3), (5, .long x2), (4, .int x1), (0, .long o), (2, .long t)]) hx hb dA_pairsValue_20 hl (by decide) rfl (fun ls hl => ?_)
  refine lv_lload hx hb dA_pairsValue_22 (lv_at hl 0 rfl) ?_
  refine lv_lconst (v := 0) hx hb dA_pairsValue_24 (by decide) ?_
  refine jv_lcne (tgt := 49) hx hb dA_pairsValue_25 dA_pairsValue_26 (by decide) (fun hc4 => ?_) (fun hc4 => ?_)
  · refine lv_lload hx hb dA_pairsValue_49 (lv_at hl 1 rfl) ?_
    refine lv_lload hx hb dA_pairsValue_51 (lv_at hl 0 rfl) ?_
    refine pu_S (cA_highest l _) rfl kA_A_highest hS bl_T trivial rfl ⟨Nat.le_of_ble_eq_true rfl, Nat.le_of_ble_eq_true rfl⟩ hl.1 rfl (Nat.le_of_ble_eq_true rfl) ⟨Nat.zero_le _, Nat.zero_le _⟩ dA_pairsValue_53 ?_
    refine pu_S (cA_without l _ _) rfl kA_A_without hS bl_T trivial rfl ⟨Nat.le_of_ble_eq_true rfl, Nat.le_of_ble_eq_true rfl⟩ hl.1 rfl (Nat.le_of_ble_eq_true rfl) ⟨Nat.zero_le _, Nat.zero_le _⟩ dA_pairsValue_56 ?_
    refine lv_iconst (v := 1) hx hb dA_pairsValue_59 (by decide) ?_
    refine pu_S (cA_placeOf l _ 1 (by decide) (by subst_vars; exact rk_wo _ (rk_wo _ ho))) rfl kA_A_placeOf hS bl_ta hB rfl ⟨Nat.le_of_ble_eq_true rfl, Nat.le_of_ble_eq_true rfl⟩ hl.1 rfl (Nat.le_of_ble_eq_true rfl) ⟨Nat.zero_le _, Nat.zero_le _⟩ dA_pairsValue_60 ?_
    refine lv_topi (fun x5 ex5 => ?_)
    refine lv_istore (lv' := [(9, .int x5), (7, .long x3), (5, .long x2), (4, .int x1), (0, .long o), (2, .long t)]) hx hb dA_pairsValue_63 hl (by decide) rfl (fun ls hl => ?_)
    refine ta_get hx hb hT1 hown (hts _ (wd_in (gw_mem 175 rfl rfl))) dA_pairsValue_65 ?_
    refine lv_iconst (v := 2) hx hb dA_pairsValue_68 (by decide) ?_
    refine ta_ld hx hb hT1 (by unfold vp_in; decide) dA_pairsValue_69 ?_
    refine lv_lload_n hx hb dA_pairsValue_70 rfl (lv_at hl 5 rfl) ?_
    refine lv_iconst (v := 2) hx hb dA_pairsValue_71 (by decide) ?_
    refine pu_S (cA_placeOf l _ 2 (by decide) ht) rfl kA_A_placeOf hS bl_ta hB rfl ⟨Nat.le_of_ble_eq_true rfl, Nat.le_of_ble_eq_true rfl⟩ hl.1 rfl (Nat.le_of_ble_eq_true rfl) ⟨Nat.zero_le _, Nat.zero_le _⟩ dA_pairsValue_72 ?_
    refine lv_bipush (v := 11) hx hb dA_pairsValue_75 (by decide) ?_
    refine lv_imul hx hb dA_pairsValue_77 ?_
    refine lv_iadd hx hb dA_pairsValue_78 ?_
    refine lv_iload hx hb dA_pairsValue_79 (lv_at hl 0 rfl) ?_
    refine lv_iadd hx hb dA_pairsValue_81 ?_
    exact pu_iret hx hb hr hlk dA_pairsValue_82 (by subst ex5 ex3 ex2 ex1; first | contradiction | ((try simp only [f_pairs, if_neg hc4]) <;> rfl))
  · refine ta_get hx hb hT1 hown (hts _ (wd_in (gw_mem 175 rfl rfl))) dA_pairsValue_29 ?_
    refine lv_iconst (v := 1) hx hb dA_pairsValue_32 (by decide) ?_
    refine ta_ld hx hb hT1 (by unfold vp_in; decide) dA_pairsValue_33 ?_
    refine lv_iload hx hb dA_pairsValue_34 (lv_at hl 2 rfl) ?_
    refine lv_sipush (v := 220) hx hb dA_pairsValue_36 (by decide) ?_
    refine lv_imul hx hb dA_pairsValue_39 ?_
    refine lv_iadd hx hb dA_pairsValue_40 ?_
    refine lv_lload hx hb dA_pairsValue_41 (lv_at hl 1 rfl) ?_
    refine lv_iconst (v := 3) hx hb dA_pairsValue_43 (by decide) ?_
    refine pu_S (cA_placeOf l _ 3 (by decide) (by subst_vars; exact rk_wo _ ho)) rfl kA_A_placeOf hS bl_ta hB rfl ⟨Nat.le_of_ble_eq_true rfl, Nat.le_of_ble_eq_true rfl⟩ hl.1 rfl (Nat.le_of_ble_eq_true rfl) ⟨Nat.zero_le _, Nat.zero_le _⟩ dA_pairsValue_44 ?_
    refine lv_iadd hx hb dA_pairsValue_47 ?_
    exact pu_iret hx hb hr hlk dA_pairsValue_48 (by subst ex3 ex2 ex1; first | contradiction | ((try simp only [f_pairs, if_pos hc4]) <;> rfl))
set_option maxHeartbeats 4000000 in
set_option maxRecDepth 100000 in
theorem cA_valueOf (l : Launch) (x : Int64)  : pu_M l yA_valueOf bA_valueOf 25 (some .int) 4 [.long x] ta_F (.int (f_valueOf x)) := by
  refine Met.ofW (cc := bA_valueOf) (maxL := 25) (ret := (some .int)) (by decide) rfl ?_
  intro p e s m args below meth c s₁ BB hml hv
  obtain ⟨rfl, hB⟩ := hv
  have hx := BB.exec
  have hb := BB.bytes
  have hr := BB.returns
  have hlk := BB.notSynchronized
  have hts := atoms_spec (ws := wd yA_valueOf bA_valueOf 25 (some .int)) BB.pre
  have hown : s.vm.findClass "HandTables" = some m.cls := findClass_of_methodNamed BB.named
  have hS : CallFix p m c bA_valueOf 25 s _ (wd yA_valueOf bA_valueOf 25 (some .int)) "HandTables" := ⟨hx, hb, hml, hown, hts⟩
  obtain ⟨⟨t1, hT1⟩, ⟨t2, hT2⟩, ⟨t3, hT3⟩, ⟨t4, hT4⟩⟩ := id hB
  have hl := lv_entry ([.long x]) (n := 25) (Nat.le_of_ble_eq_true rfl)
  rw [lg_entry_eq]
  generalize (lg_sl ([.long x]) ++ List.replicate (25 - (lg_sl ([.long x])).length) Slot.unset).toArray = ls at hl ⊢
  have hl : lv_has ls 25 [(0, .long x)] := hl
  refine lv_lload_n hx hb dA_valueOf_0 rfl (lv_at hl 0 rfl) ?_
  refine pu_S (cA_suitedRanks l _) rfl kA_A_suitedRanks hS bl_T trivial rfl ⟨Nat.le_of_ble_eq_true rfl, Nat.le_of_ble_eq_true rfl⟩ hl.1 rfl (Nat.le_of_ble_eq_true rfl) ⟨Nat.zero_le _, Nat.zero_le _⟩ dA_valueOf_1 ?_
  refine lv_topl (fun x1 ex1 => ?_)
  refine lv_lstore_n (lv' := [(2, .long x1), (0, .long x)]) hx hb dA_valueOf_4 rfl hl (by decide) rfl (fun ls hl => ?_)
  refine lv_lload_n hx hb dA_valueOf_5 rfl (lv_at hl 0 rfl) ?_
  refine pu_S (cA_straights l _) rfl kA_A_straights hS bl_T trivial rfl ⟨Nat.le_of_ble_eq_true rfl, Nat.le_of_ble_eq_true rfl⟩ hl.1 rfl (Nat.le_of_ble_eq_true rfl) ⟨Nat.zero_le _, Nat.zero_le _⟩ dA_valueOf_6 ?_
  refine lv_topl (fun x2 ex2 => ?_)
  refine lv_lstore (lv' := [(4, .long x2), (2, .long x1), (0, .long x)]) hx hb dA_valueOf_9 hl (by decide) rfl (fun ls hl => ?_)
  refine lv_lload hx hb dA_valueOf_11 (lv_at hl 0 rfl) ?_
  refine lv_lconst (v := 0) hx hb dA_valueOf_13 (by decide) ?_
  refine jv_lceq (tgt := 31) hx hb dA_valueOf_14 dA_valueOf_15 (by decide) (fun hc3 => ?_) (fun hc3 => ?_)
  · refine lv_lload_n hx hb dA_valueOf_31 rfl (lv_at hl 2 rfl) ?_
    refine lv_ldc2 (v := 300239975158033) hx hb hown (hts _ (wd_in (gw_mem 171 rfl rfl))) dA_valueOf_32 ?_
    refine lv_land hx hb dA_valueOf_35 ?_
    refine lv_topl (fun x4 ex4 => ?_)
    refine lv_lstore (lv' := [(6, .long x4), (4, .long x2), (2, .long x1), (0, .long x)]) hx hb dA_valueOf_36 hl (by decide) rfl (fun ls hl => ?_)
    refine lv_lload_n hx hb dA_valueOf_38 rfl (lv_at hl 3 rfl) ?_
    refine lv_iconst (v := 1) hx hb dA_valueOf_39 (by decide) ?_
    refine jv_lushr hx hb dA_valueOf_40 ?_
    refine lv_ldc2 (v := 300239975158033) hx hb hown (hts _ (wd_in (gw_mem 171 rfl rfl))) dA_valueOf_41 ?_
    refine lv_land hx hb dA_valueOf_44 ?_
    refine lv_topl (fun x5 ex5 => ?_)
    refine lv_lstore (lv' := [(8, .long x5), (6, .long x4), (4, .long x2), (2, .long x1), (0, .long x)]) hx hb dA_valueOf_45 hl (by decide) rfl (fun ls hl => ?_)
    refine lv_lload_n hx hb dA_valueOf_47 rfl (lv_at hl 4 rfl) ?_
    refine lv_iconst (v := 2) hx hb dA_valueOf_48 (by decide) ?_
    refine jv_lushr hx hb dA_valueOf_49 ?_
    refine lv_ldc2 (v := 300239975158033) hx hb hown (hts _ (wd_in (gw_mem 171 rfl rfl))) dA_valueOf_50 ?_
    refine lv_land hx hb dA_valueOf_53 ?_
    refine lv_topl (fun x6 ex6 => ?_)
    refine lv_lstore (lv' := [(10, .long x6), (8, .long x5), (6, .long x4), (4, .long x2), (2, .long x1), (0, .long x)]) hx hb dA_valueOf_54 hl (by decide) rfl (fun ls hl => ?_)
    refine lv_lload_n hx hb dA_valueOf_56 rfl (lv_at hl 5 rfl) ?_
    refine lv_iconst (v := 3) hx hb dA_valueOf_57 (by decide) ?_
    refine jv_lushr hx hb dA_valueOf_58 ?_
    refine lv_ldc2 (v := 300239975158033) hx hb hown (hts _ (wd_in (gw_mem 171 rfl rfl))) dA_valueOf_59 ?_
    refine lv_land hx hb dA_valueOf_62 ?_
    refine lv_topl (fun x7 ex7 => ?_)
    refine lv_lstore (lv' := [(12, .long x7), (10, .long x6), (8, .long x5), (6, .long x4), (4, .long x2), (2, .long x1), (0, .long x)]) hx hb dA_valueOf_63 hl (by decide) rfl (fun ls hl => ?_)
    refine lv_lload hx hb dA_valueOf_65 (lv_at hl 3 rfl) ?_
    refine lv_lload hx hb dA_valueOf_67 (lv_at hl 2 rfl) ?_
    refine lv_lor hx hb dA_valueOf_69 ?_
    refine lv_lload hx hb dA_valueOf_70 (lv_at hl 1 rfl) ?_
    refine lv_lor hx hb dA_valueOf_72 ?_
    refine lv_lload hx hb dA_valueOf_73 (lv_at hl 0 rfl) ?_
    refine lv_lor hx hb dA_valueOf_75 ?_
    refine lv_topl (fun x8 ex8 => ?_)
    refine lv_lstore (lv' := [(14, .long x8), (12, .long x7), (10, .long x6), (8, .long x5), (6, .long x4), (4, .long x2), (2, .long x1), (0, .long x)]) hx hb dA_valueOf_76 hl (by decide) rfl (fun ls hl => ?_)
    refine lv_lload hx hb dA_valueOf_78 (lv_at hl 4 rfl) ?_
    refine lv_lload hx hb dA_valueOf_80 (lv_at hl 3 rfl) ?_
    refine lv_land hx hb dA_valueOf_82 ?_
    refine lv_lload hx hb dA_valueOf_83 (lv_at hl 2 rfl) ?_
    refine lv_lload hx hb dA_valueOf_85 (lv_at hl 1 rfl) ?_
    refine lv_land hx hb dA_valueOf_87 ?_
    refine lv_lor hx hb dA_valueOf_88 ?_
    refine lv_lload hx hb dA_valueOf_89 (lv_at hl 4 rfl) ?_
    refine lv_lload hx hb dA_valueOf_91 (lv_at hl 3 rfl) ?_
    refine lv_lor hx hb dA_valueOf_93 ?_
    refine lv_lload hx hb dA_valueOf_94 (lv_at hl 2 rfl) ?_
    refine lv_lload hx hb dA_valueOf_96 (lv_at hl 1 rfl) ?_
    refine lv_lor hx hb dA_valueOf_98 ?_
    refine lv_land hx hb dA_valueOf_99 ?_
    refine lv_lor hx hb dA_valueOf_100 ?_
    refine lv_topl (fun x9 ex9 => ?_)
    refine lv_lstore (lv' := [(16, .long x9), (14, .long x8), (12, .long x7), (10, .long x6), (8, .long x5), (6, .long x4), (4, .long x2), (2, .long x1), (0, .long x)]) hx hb dA_valueOf_101 hl (by decide) rfl (fun ls hl => ?_)
    refine lv_lload hx hb dA_valueOf_103 (lv_at hl 5 rfl) ?_
    refine lv_lload hx hb dA_valueOf_105 (lv_at hl 4 rfl) ?_
    refine lv_land hx hb dA_valueOf_107 ?_
    refine lv_lload hx hb dA_valueOf_108 (lv_at hl 3 rfl) ?_
    refine lv_lload hx hb dA_valueOf_110 (lv_at hl 2 rfl) ?_
    refine lv_lor hx hb dA_valueOf_112 ?_
    refine lv_land hx hb dA_valueOf_113 ?_
    refine lv_lload hx hb dA_valueOf_114 (lv_at hl 3 rfl) ?_
    refine lv_lload hx hb dA_valueOf_116 (lv_at hl 2 rfl) ?_
    refine lv_land hx hb dA_valueOf_118 ?_
    refine lv_lload hx hb dA_valueOf_119 (lv_at hl 5 rfl) ?_
    refine lv_lload hx hb dA_valueOf_121 (lv_at hl 4 rfl) ?_
    refine lv_lor hx hb dA_valueOf_123 ?_
    refine lv_land hx hb dA_valueOf_124 ?_
    refine lv_lor hx hb dA_valueOf_125 ?_
    refine lv_topl (fun x10 ex10 => ?_)
    refine lv_lstore (lv' := [(18, .long x10), (16, .long x9), (14, .long x8), (12, .long x7), (10, .long x6), (8, .long x5), (6, .long x4), (4, .long x2), (2, .long x1), (0, .long x)]) hx hb dA_valueOf_126 hl (by decide) rfl (fun ls hl => ?_)
    refine lv_lload hx hb dA_valueOf_128 (lv_at hl 6 rfl) ?_
    refine lv_lload hx hb dA_valueOf_130 (lv_at hl 5 rfl) ?_
    refine lv_land hx hb dA_valueOf_132 ?_
    refine lv_lload hx hb dA_valueOf_133 (lv_at hl 4 rfl) ?_
    refine lv_land hx hb dA_valueOf_135 ?_
    refine lv_lload hx hb dA_valueOf_136 (lv_at hl 3 rfl) ?_
    refine lv_land hx hb dA_valueOf_138 ?_
    refine lv_topl (fun x11 ex11 => ?_)
    refine lv_lstore (lv' := [(20, .long x11), (18, .long x10), (16, .long x9), (14, .long x8), (12, .long x7), (10, .long x6), (8, .long x5), (6, .long x4), (4, .long x2), (2, .long x1), (0, .long x)]) hx hb dA_valueOf_139 hl (by decide) rfl (fun ls hl => ?_)
    refine lv_lload hx hb dA_valueOf_141 (lv_at hl 0 rfl) ?_
    refine lv_lconst (v := 0) hx hb dA_valueOf_143 (by decide) ?_
    refine jv_lceq (tgt := 180) hx hb dA_valueOf_144 dA_valueOf_145 (by decide) (fun hc12 => ?_) (fun hc12 => ?_)
    · refine lv_lload hx hb dA_valueOf_180 (lv_at hl 1 rfl) ?_
      refine pu_S (cA_highest l _) rfl kA_A_highest hS bl_T trivial rfl ⟨Nat.le_of_ble_eq_true rfl, Nat.le_of_ble_eq_true rfl⟩ hl.1 rfl (Nat.le_of_ble_eq_true rfl) ⟨Nat.zero_le _, Nat.zero_le _⟩ dA_valueOf_182 ?_
      refine lv_topi (fun x13 ex13 => ?_)
      refine lv_istore (lv' := [(22, .int x13), (20, .long x11), (18, .long x10), (16, .long x9), (14, .long x8), (12, .long x7), (10, .long x6), (8, .long x5), (6, .long x4), (4, .long x2), (2, .long x1), (0, .long x)]) hx hb dA_valueOf_185 hl (by decide) rfl (fun ls hl => ?_)
      refine lv_lload hx hb dA_valueOf_187 (lv_at hl 2 rfl) ?_
      refine lv_lconst (v := 0) hx hb dA_valueOf_189 (by decide) ?_
      refine jv_lceq (tgt := 231) hx hb dA_valueOf_190 dA_valueOf_191 (by decide) (fun hc14 => ?_) (fun hc14 => ?_)
      · refine lv_lload_n hx hb dA_valueOf_231 rfl (lv_at hl 10 rfl) ?_
        refine lv_lconst (v := 0) hx hb dA_valueOf_232 (by decide) ?_
        refine jv_lceq (tgt := 248) hx hb dA_valueOf_233 dA_valueOf_234 (by decide) (fun hc15 => ?_) (fun hc15 => ?_)
        · refine lv_lload hx hb dA_valueOf_248 (lv_at hl 4 rfl) ?_
          refine pu_S (cA_straights l _) rfl kA_A_straights hS bl_T trivial rfl ⟨Nat.le_of_ble_eq_true rfl, Nat.le_of_ble_eq_true rfl⟩ hl.1 rfl (Nat.le_of_ble_eq_true rfl) ⟨Nat.zero_le _, Nat.zero_le _⟩ dA_valueOf_250 ?_
          refine lv_topl (fun x16 ex16 => ?_)
          refine lv_lstore (lv' := [(23, .long x16), (22, .int x13), (20, .long x11), (18, .long x10), (16, .long x9), (14, .long x8), (12, .long x7), (10, .long x6), (8, .long x5), (6, .long x4), (4, .long x2), (2, .long x1), (0, .long x)]) hx hb dA_valueOf_253 hl (by decide) rfl (fun ls hl => ?_)
          refine lv_lload hx hb dA_valueOf_255 (lv_at hl 0 rfl) ?_
          refine lv_lconst (v := 0) hx hb dA_valueOf_257 (by decide) ?_
          refine jv_lceq (tgt := 274) hx hb dA_valueOf_258 dA_valueOf_259 (by decide) (fun hc17 => ?_) (fun hc17 => ?_)
          · refine lv_lload hx hb dA_valueOf_274 (lv_at hl 3 rfl) ?_
            refine lv_lconst (v := 0) hx hb dA_valueOf_276 (by decide) ?_
            refine jv_lceq (tgt := 305) hx hb dA_valueOf_277 dA_valueOf_278 (by decide) (fun hc18 => ?_) (fun hc18 => ?_)
            · refine lv_lload hx hb dA_valueOf_305 (lv_at hl 4 rfl) ?_
              refine lv_lconst (v := 0) hx hb dA_valueOf_307 (by decide) ?_
              refine jv_lceq (tgt := 322) hx hb dA_valueOf_308 dA_valueOf_309 (by decide) (fun hc19 => ?_) (fun hc19 => ?_)
              · refine ta_get hx hb hT1 hown (hts _ (wd_in (gw_mem 175 rfl rfl))) dA_valueOf_322 ?_
                refine lv_iconst (v := 0) hx hb dA_valueOf_325 (by decide) ?_
                refine ta_ld hx hb hT1 (by unfold vp_in; decide) dA_valueOf_326 ?_
                refine lv_lload hx hb dA_valueOf_327 (lv_at hl 5 rfl) ?_
                refine pu_S (cA_placeBesideStraights l _ (by subst_vars; exact rk_or (rk_or (rk_or (rk_m _) (rk_m _)) (rk_m _)) (rk_m _))) rfl kA_A_placeBesideStraights hS bl_ta hB rfl ⟨Nat.le_of_ble_eq_true rfl, Nat.le_of_ble_eq_true rfl⟩ hl.1 rfl (Nat.le_of_ble_eq_true rfl) ⟨Nat.zero_le _, Nat.zero_le _⟩ dA_valueOf_329 ?_
                refine lv_iadd hx hb dA_valueOf_332 ?_
                exact pu_iret hx hb hr hlk dA_valueOf_333 (by subst ex16 ex13 ex11 ex10 ex9 ex8 ex7 ex6 ex5 ex4 ex2 ex1; first | contradiction | ((try simp only [f_valueOf, v_1, v_2, v_3, if_pos hc3, if_pos hc12, if_pos hc14, if_pos hc15, if_pos hc17, if_pos hc18, if_pos hc19]) <;> rfl))
              · refine lv_lload hx hb dA_valueOf_312 (lv_at hl 5 rfl) ?_
                refine lv_lload hx hb dA_valueOf_314 (lv_at hl 4 rfl) ?_
                refine pu_S (cA_pairsValue l _ _ (by subst_vars; exact rk_or (rk_or (rk_or (rk_m _) (rk_m _)) (rk_m _)) (rk_m _)) (by subst_vars; exact rk_or (rk_or (rk_and _ (rk_m _)) (rk_and _ (rk_m _))) (rk_and _ (rk_or (rk_m _) (rk_m _))))) rfl kA_A_pairsValue hS bl_ta hB rfl ⟨Nat.le_of_ble_eq_true rfl, Nat.le_of_ble_eq_true rfl⟩ hl.1 rfl (Nat.le_of_ble_eq_true rfl) ⟨Nat.zero_le _, Nat.zero_le _⟩ dA_valueOf_316 ?_
                refine lv_goto (tgt := 333) hx hb dA_valueOf_319 (by decide) ?_
                exact pu_iret hx hb hr hlk dA_valueOf_333 (by subst ex16 ex13 ex11 ex10 ex9 ex8 ex7 ex6 ex5 ex4 ex2 ex1; first | contradiction | ((try simp only [f_valueOf, v_1, v_2, v_3, if_pos hc3, if_pos hc12, if_pos hc14, if_pos hc15, if_pos hc17, if_pos hc18, if_neg hc19]) <;> rfl))
            · refine ta_get hx hb hT1 hown (hts _ (wd_in (gw_mem 175 rfl rfl))) dA_valueOf_281 ?_
              refine lv_iconst (v := 3) hx hb dA_valueOf_284 (by decide) ?_
              refine ta_ld hx hb hT1 (by unfold vp_in; decide) dA_valueOf_285 ?_
              refine lv_iload hx hb dA_valueOf_286 (lv_at hl 1 rfl) ?_
              refine lv_bipush (v := 66) hx hb dA_valueOf_288 (by decide) ?_
              refine lv_imul hx hb dA_valueOf_290 ?_
              refine lv_iadd hx hb dA_valueOf_291 ?_
              refine lv_lload hx hb dA_valueOf_292 (lv_at hl 5 rfl) ?_
              refine lv_iload hx hb dA_valueOf_294 (lv_at hl 1 rfl) ?_
              refine pu_S (cA_without l _ _) rfl kA_A_without hS bl_T trivial rfl ⟨Nat.le_of_ble_eq_true rfl, Nat.le_of_ble_eq_true rfl⟩ hl.1 rfl (Nat.le_of_ble_eq_true rfl) ⟨Nat.zero_le _, Nat.zero_le _⟩ dA_valueOf_296 ?_
              refine lv_iconst (v := 2) hx hb dA_valueOf_299 (by decide) ?_
              refine pu_S (cA_placeOf l _ 2 (by decide) (by subst_vars; exact rk_wo _ (rk_or (rk_or (rk_or (rk_m _) (rk_m _)) (rk_m _)) (rk_m _)))) rfl kA_A_placeOf hS bl_ta hB rfl ⟨Nat.le_of_ble_eq_true rfl, Nat.le_of_ble_eq_true rfl⟩ hl.1 rfl (Nat.le_of_ble_eq_true rfl) ⟨Nat.zero_le _, Nat.zero_le _⟩ dA_valueOf_300 ?_
              refine lv_iadd hx hb dA_valueOf_303 ?_
              exact pu_iret hx hb hr hlk dA_valueOf_304 (by subst ex16 ex13 ex11 ex10 ex9 ex8 ex7 ex6 ex5 ex4 ex2 ex1; first | contradiction | ((try simp only [f_valueOf, v_1, v_2, v_3, if_pos hc3, if_pos hc12, if_pos hc14, if_pos hc15, if_pos hc17, if_neg hc18]) <;> rfl))
          · refine ta_get hx hb hT1 hown (hts _ (wd_in (gw_mem 175 rfl rfl))) dA_valueOf_262 ?_
            refine lv_iconst (v := 4) hx hb dA_valueOf_265 (by decide) ?_
            refine ta_ld hx hb hT1 (by unfold vp_in; decide) dA_valueOf_266 ?_
            refine lv_lload hx hb dA_valueOf_267 (lv_at hl 0 rfl) ?_
            refine pu_S (cA_highest l _) rfl kA_A_highest hS bl_T trivial rfl ⟨Nat.le_of_ble_eq_true rfl, Nat.le_of_ble_eq_true rfl⟩ hl.1 rfl (Nat.le_of_ble_eq_true rfl) ⟨Nat.zero_le _, Nat.zero_le _⟩ dA_valueOf_269 ?_
            refine lv_iadd hx hb dA_valueOf_272 ?_
            exact pu_iret hx hb hr hlk dA_valueOf_273 (by subst ex16 ex13 ex11 ex10 ex9 ex8 ex7 ex6 ex5 ex4 ex2 ex1; first | contradiction | ((try simp only [f_valueOf, v_1, v_2, v_3, if_pos hc3, if_pos hc12, if_pos hc14, if_pos hc15, if_neg hc17]) <;> rfl))
        · refine ta_get hx hb hT1 hown (hts _ (wd_in (gw_mem 175 rfl rfl))) dA_valueOf_237 ?_
          refine lv_iconst (v := 5) hx hb dA_valueOf_240 (by decide) ?_
          refine ta_ld hx hb hT1 (by unfold vp_in; decide) dA_valueOf_241 ?_
          refine lv_lload_n hx hb dA_valueOf_242 rfl (lv_at hl 10 rfl) ?_
          refine pu_S (cA_placeBesideStraights l _ (by subst_vars; exact rk_su _)) rfl kA_A_placeBesideStraights hS bl_ta hB rfl ⟨Nat.le_of_ble_eq_true rfl, Nat.le_of_ble_eq_true rfl⟩ hl.1 rfl (Nat.le_of_ble_eq_true rfl) ⟨Nat.zero_le _, Nat.zero_le _⟩ dA_valueOf_243 ?_
          refine lv_iadd hx hb dA_valueOf_246 ?_
          exact pu_iret hx hb hr hlk dA_valueOf_247 (by subst ex13 ex11 ex10 ex9 ex8 ex7 ex6 ex5 ex4 ex2 ex1; first | contradiction | ((try simp only [f_valueOf, v_1, v_2, v_3, if_pos hc3, if_pos hc12, if_pos hc14, if_neg hc15]) <;> rfl))
      · refine lv_lload hx hb dA_valueOf_194 (lv_at hl 3 rfl) ?_
        refine lv_iload hx hb dA_valueOf_196 (lv_at hl 0 rfl) ?_
        refine pu_S (cA_without l _ _) rfl kA_A_without hS bl_T trivial rfl ⟨Nat.le_of_ble_eq_true rfl, Nat.le_of_ble_eq_true rfl⟩ hl.1 rfl (Nat.le_of_ble_eq_true rfl) ⟨Nat.zero_le _, Nat.zero_le _⟩ dA_valueOf_198 ?_
        refine lv_lconst (v := 0) hx hb dA_valueOf_201 (by decide) ?_
        refine jv_lceq (tgt := 231) hx hb dA_valueOf_202 dA_valueOf_203 (by decide) (fun hc20 => ?_) (fun hc20 => ?_)
        · refine lv_lload_n hx hb dA_valueOf_231 rfl (lv_at hl 10 rfl) ?_
          refine lv_lconst (v := 0) hx hb dA_valueOf_232 (by decide) ?_
          refine jv_lceq (tgt := 248) hx hb dA_valueOf_233 dA_valueOf_234 (by decide) (fun hc21 => ?_) (fun hc21 => ?_)
          · refine lv_lload hx hb dA_valueOf_248 (lv_at hl 4 rfl) ?_
            refine pu_S (cA_straights l _) rfl kA_A_straights hS bl_T trivial rfl ⟨Nat.le_of_ble_eq_true rfl, Nat.le_of_ble_eq_true rfl⟩ hl.1 rfl (Nat.le_of_ble_eq_true rfl) ⟨Nat.zero_le _, Nat.zero_le _⟩ dA_valueOf_250 ?_
            refine lv_topl (fun x22 ex22 => ?_)
            refine lv_lstore (lv' := [(23, .long x22), (22, .int x13), (20, .long x11), (18, .long x10), (16, .long x9), (14, .long x8), (12, .long x7), (10, .long x6), (8, .long x5), (6, .long x4), (4, .long x2), (2, .long x1), (0, .long x)]) hx hb dA_valueOf_253 hl (by decide) rfl (fun ls hl => ?_)
            refine lv_lload hx hb dA_valueOf_255 (lv_at hl 0 rfl) ?_
            refine lv_lconst (v := 0) hx hb dA_valueOf_257 (by decide) ?_
            refine jv_lceq (tgt := 274) hx hb dA_valueOf_258 dA_valueOf_259 (by decide) (fun hc23 => ?_) (fun hc23 => ?_)
            · refine lv_lload hx hb dA_valueOf_274 (lv_at hl 3 rfl) ?_
              refine lv_lconst (v := 0) hx hb dA_valueOf_276 (by decide) ?_
              refine jv_lceq (tgt := 305) hx hb dA_valueOf_277 dA_valueOf_278 (by decide) (fun hc24 => ?_) (fun hc24 => ?_)
              · refine lv_lload hx hb dA_valueOf_305 (lv_at hl 4 rfl) ?_
                refine lv_lconst (v := 0) hx hb dA_valueOf_307 (by decide) ?_
                refine jv_lceq (tgt := 322) hx hb dA_valueOf_308 dA_valueOf_309 (by decide) (fun hc25 => ?_) (fun hc25 => ?_)
                · refine ta_get hx hb hT1 hown (hts _ (wd_in (gw_mem 175 rfl rfl))) dA_valueOf_322 ?_
                  refine lv_iconst (v := 0) hx hb dA_valueOf_325 (by decide) ?_
                  refine ta_ld hx hb hT1 (by unfold vp_in; decide) dA_valueOf_326 ?_
                  refine lv_lload hx hb dA_valueOf_327 (lv_at hl 5 rfl) ?_
                  refine pu_S (cA_placeBesideStraights l _ (by subst_vars; exact rk_or (rk_or (rk_or (rk_m _) (rk_m _)) (rk_m _)) (rk_m _))) rfl kA_A_placeBesideStraights hS bl_ta hB rfl ⟨Nat.le_of_ble_eq_true rfl, Nat.le_of_ble_eq_true rfl⟩ hl.1 rfl (Nat.le_of_ble_eq_true rfl) ⟨Nat.zero_le _, Nat.zero_le _⟩ dA_valueOf_329 ?_
                  refine lv_iadd hx hb dA_valueOf_332 ?_
                  exact pu_iret hx hb hr hlk dA_valueOf_333 (by subst ex22 ex13 ex11 ex10 ex9 ex8 ex7 ex6 ex5 ex4 ex2 ex1; first | contradiction | ((try simp only [f_valueOf, v_1, v_2, v_3, if_pos hc3, if_pos hc12, if_neg hc14, if_pos hc20, if_pos hc21, if_pos hc23, if_pos hc24, if_pos hc25]) <;> rfl))
                · refine lv_lload hx hb dA_valueOf_312 (lv_at hl 5 rfl) ?_
                  refine lv_lload hx hb dA_valueOf_314 (lv_at hl 4 rfl) ?_
                  refine pu_S (cA_pairsValue l _ _ (by subst_vars; exact rk_or (rk_or (rk_or (rk_m _) (rk_m _)) (rk_m _)) (rk_m _)) (by subst_vars; exact rk_or (rk_or (rk_and _ (rk_m _)) (rk_and _ (rk_m _))) (rk_and _ (rk_or (rk_m _) (rk_m _))))) rfl kA_A_pairsValue hS bl_ta hB rfl ⟨Nat.le_of_ble_eq_true rfl, Nat.le_of_ble_eq_true rfl⟩ hl.1 rfl (Nat.le_of_ble_eq_true rfl) ⟨Nat.zero_le _, Nat.zero_le _⟩ dA_valueOf_316 ?_
                  refine lv_goto (tgt := 333) hx hb dA_valueOf_319 (by decide) ?_
                  exact pu_iret hx hb hr hlk dA_valueOf_333 (by subst ex22 ex13 ex11 ex10 ex9 ex8 ex7 ex6 ex5 ex4 ex2 ex1; first | contradiction | ((try simp only [f_valueOf, v_1, v_2, v_3, if_pos hc3, if_pos hc12, if_neg hc14, if_pos hc20, if_pos hc21, if_pos hc23, if_pos hc24, if_neg hc25]) <;> rfl))
              · refine ta_get hx hb hT1 hown (hts _ (wd_in (gw_mem 175 rfl rfl))) dA_valueOf_281 ?_
                refine lv_iconst (v := 3) hx hb dA_valueOf_284 (by decide) ?_
                refine ta_ld hx hb hT1 (by unfold vp_in; decide) dA_valueOf_285 ?_
                refine lv_iload hx hb dA_valueOf_286 (lv_at hl 1 rfl) ?_
                refine lv_bipush (v := 66) hx hb dA_valueOf_288 (by decide) ?_
                refine lv_imul hx hb dA_valueOf_290 ?_
                refine lv_iadd hx hb dA_valueOf_291 ?_
                refine lv_lload hx hb dA_valueOf_292 (lv_at hl 5 rfl) ?_
                refine lv_iload hx hb dA_valueOf_294 (lv_at hl 1 rfl) ?_
                refine pu_S (cA_without l _ _) rfl kA_A_without hS bl_T trivial rfl ⟨Nat.le_of_ble_eq_true rfl, Nat.le_of_ble_eq_true rfl⟩ hl.1 rfl (Nat.le_of_ble_eq_true rfl) ⟨Nat.zero_le _, Nat.zero_le _⟩ dA_valueOf_296 ?_
                refine lv_iconst (v := 2) hx hb dA_valueOf_299 (by decide) ?_
                refine pu_S (cA_placeOf l _ 2 (by decide) (by subst_vars; exact rk_wo _ (rk_or (rk_or (rk_or (rk_m _) (rk_m _)) (rk_m _)) (rk_m _)))) rfl kA_A_placeOf hS bl_ta hB rfl ⟨Nat.le_of_ble_eq_true rfl, Nat.le_of_ble_eq_true rfl⟩ hl.1 rfl (Nat.le_of_ble_eq_true rfl) ⟨Nat.zero_le _, Nat.zero_le _⟩ dA_valueOf_300 ?_
                refine lv_iadd hx hb dA_valueOf_303 ?_
                exact pu_iret hx hb hr hlk dA_valueOf_304 (by subst ex22 ex13 ex11 ex10 ex9 ex8 ex7 ex6 ex5 ex4 ex2 ex1; first | contradiction | ((try simp only [f_valueOf, v_1, v_2, v_3, if_pos hc3, if_pos hc12, if_neg hc14, if_pos hc20, if_pos hc21, if_pos hc23, if_neg hc24]) <;> rfl))
            · refine ta_get hx hb hT1 hown (hts _ (wd_in (gw_mem 175 rfl rfl))) dA_valueOf_262 ?_
              refine lv_iconst (v := 4) hx hb dA_valueOf_265 (by decide) ?_
              refine ta_ld hx hb hT1 (by unfold vp_in; decide) dA_valueOf_266 ?_
              refine lv_lload hx hb dA_valueOf_267 (lv_at hl 0 rfl) ?_
              refine pu_S (cA_highest l _) rfl kA_A_highest hS bl_T trivial rfl ⟨Nat.le_of_ble_eq_true rfl, Nat.le_of_ble_eq_true rfl⟩ hl.1 rfl (Nat.le_of_ble_eq_true rfl) ⟨Nat.zero_le _, Nat.zero_le _⟩ dA_valueOf_269 ?_
              refine lv_iadd hx hb dA_valueOf_272 ?_
              exact pu_iret hx hb hr hlk dA_valueOf_273 (by subst ex22 ex13 ex11 ex10 ex9 ex8 ex7 ex6 ex5 ex4 ex2 ex1; first | contradiction | ((try simp only [f_valueOf, v_1, v_2, v_3, if_pos hc3, if_pos hc12, if_neg hc14, if_pos hc20, if_pos hc21, if_neg hc23]) <;> rfl))
          · refine ta_get hx hb hT1 hown (hts _ (wd_in (gw_mem 175 rfl rfl))) dA_valueOf_237 ?_
            refine lv_iconst (v := 5) hx hb dA_valueOf_240 (by decide) ?_
            refine ta_ld hx hb hT1 (by unfold vp_in; decide) dA_valueOf_241 ?_
            refine lv_lload_n hx hb dA_valueOf_242 rfl (lv_at hl 10 rfl) ?_
            refine pu_S (cA_placeBesideStraights l _ (by subst_vars; exact rk_su _)) rfl kA_A_placeBesideStraights hS bl_ta hB rfl ⟨Nat.le_of_ble_eq_true rfl, Nat.le_of_ble_eq_true rfl⟩ hl.1 rfl (Nat.le_of_ble_eq_true rfl) ⟨Nat.zero_le _, Nat.zero_le _⟩ dA_valueOf_243 ?_
            refine lv_iadd hx hb dA_valueOf_246 ?_
            exact pu_iret hx hb hr hlk dA_valueOf_247 (by subst ex13 ex11 ex10 ex9 ex8 ex7 ex6 ex5 ex4 ex2 ex1; first | contradiction | ((try simp only [f_valueOf, v_1, v_2, v_3, if_pos hc3, if_pos hc12, if_neg hc14, if_pos hc20, if_neg hc21]) <;> rfl))
        · refine ta_get hx hb hT1 hown (hts _ (wd_in (gw_mem 175 rfl rfl))) dA_valueOf_206 ?_
          refine lv_bipush (v := 6) hx hb dA_valueOf_209 (by decide) ?_
          refine ta_ld hx hb hT1 (by unfold vp_in; decide) dA_valueOf_211 ?_
          refine lv_iload hx hb dA_valueOf_212 (lv_at hl 0 rfl) ?_
          refine lv_bipush (v := 12) hx hb dA_valueOf_214 (by decide) ?_
          refine lv_imul hx hb dA_valueOf_216 ?_
          refine lv_iadd hx hb dA_valueOf_217 ?_
          refine lv_lload hx hb dA_valueOf_218 (lv_at hl 3 rfl) ?_
          refine lv_iload hx hb dA_valueOf_220 (lv_at hl 0 rfl) ?_
          refine pu_S (cA_without l _ _) rfl kA_A_without hS bl_T trivial rfl ⟨Nat.le_of_ble_eq_true rfl, Nat.le_of_ble_eq_true rfl⟩ hl.1 rfl (Nat.le_of_ble_eq_true rfl) ⟨Nat.zero_le _, Nat.zero_le _⟩ dA_valueOf_222 ?_
          refine lv_iconst (v := 1) hx hb dA_valueOf_225 (by decide) ?_
          refine pu_S (cA_placeOf l _ 1 (by decide) (by subst_vars; exact rk_wo _ (rk_or (rk_or (rk_and _ (rk_m _)) (rk_and _ (rk_m _))) (rk_and _ (rk_or (rk_m _) (rk_m _)))))) rfl kA_A_placeOf hS bl_ta hB rfl ⟨Nat.le_of_ble_eq_true rfl, Nat.le_of_ble_eq_true rfl⟩ hl.1 rfl (Nat.le_of_ble_eq_true rfl) ⟨Nat.zero_le _, Nat.zero_le _⟩ dA_valueOf_226 ?_
          refine lv_iadd hx hb dA_valueOf_229 ?_
          exact pu_iret hx hb hr hlk dA_valueOf_230 (by subst ex13 ex11 ex10 ex9 ex8 ex7 ex6 ex5 ex4 ex2 ex1; first | contradiction | ((try simp only [f_valueOf, v_1, v_2, v_3, if_pos hc3, if_pos hc12, if_neg hc14, if_neg hc20]) <;> rfl))
    · refine lv_lload hx hb dA_valueOf_148 (lv_at hl 0 rfl) ?_
      refine pu_S (cA_highest l _) rfl kA_A_highest hS bl_T trivial rfl ⟨Nat.le_of_ble_eq_true rfl, Nat.le_of_ble_eq_true rfl⟩ hl.1 rfl (Nat.le_of_ble_eq_true rfl) ⟨Nat.zero_le _, Nat.zero_le _⟩ dA_valueOf_150 ?_
      refine lv_topi (fun x26 ex26 => ?_)
      refine lv_istore (lv' := [(22, .int x26), (20, .long x11), (18, .long x10), (16, .long x9), (14, .long x8), (12, .long x7), (10, .long x6), (8, .long x5), (6, .long x4), (4, .long x2), (2, .long x1), (0, .long x)]) hx hb dA_valueOf_153 hl (by decide) rfl (fun ls hl => ?_)
      refine ta_get hx hb hT1 hown (hts _ (wd_in (gw_mem 175 rfl rfl))) dA_valueOf_155 ?_
      refine lv_bipush (v := 7) hx hb dA_valueOf_158 (by decide) ?_
      refine ta_ld hx hb hT1 (by unfold vp_in; decide) dA_valueOf_160 ?_
      refine lv_iload hx hb dA_valueOf_161 (lv_at hl 0 rfl) ?_
      refine lv_bipush (v := 12) hx hb dA_valueOf_163 (by decide) ?_
      refine lv_imul hx hb dA_valueOf_165 ?_
      refine lv_iadd hx hb dA_valueOf_166 ?_
      refine lv_lload hx hb dA_valueOf_167 (lv_at hl 4 rfl) ?_
      refine lv_iload hx hb dA_valueOf_169 (lv_at hl 0 rfl) ?_
      refine pu_S (cA_without l _ _) rfl kA_A_without hS bl_T trivial rfl ⟨Nat.le_of_ble_eq_true rfl, Nat.le_of_ble_eq_true rfl⟩ hl.1 rfl (Nat.le_of_ble_eq_true rfl) ⟨Nat.zero_le _, Nat.zero_le _⟩ dA_valueOf_171 ?_
      refine lv_iconst (v := 1) hx hb dA_valueOf_174 (by decide) ?_
      refine pu_S (cA_placeOf l _ 1 (by decide) (by subst_vars; exact rk_wo _ (rk_or (rk_or (rk_or (rk_m _) (rk_m _)) (rk_m _)) (rk_m _)))) rfl kA_A_placeOf hS bl_ta hB rfl ⟨Nat.le_of_ble_eq_true rfl, Nat.le_of_ble_eq_true rfl⟩ hl.1 rfl (Nat.le_of_ble_eq_true rfl) ⟨Nat.zero_le _, Nat.zero_le _⟩ dA_valueOf_175 ?_
      refine lv_iadd hx hb dA_valueOf_178 ?_
      exact pu_iret hx hb hr hlk dA_valueOf_179 (by subst ex26 ex11 ex10 ex9 ex8 ex7 ex6 ex5 ex4 ex2 ex1; first | contradiction | ((try simp only [f_valueOf, v_1, v_2, v_3, if_pos hc3, if_neg hc12]) <;> rfl))
  · refine ta_get hx hb hT1 hown (hts _ (wd_in (gw_mem 175 rfl rfl))) dA_valueOf_18 ?_
    refine lv_bipush (v := 8) hx hb dA_valueOf_21 (by decide) ?_
    refine ta_ld hx hb hT1 (by unfold vp_in; decide) dA_valueOf_23 ?_
    refine lv_lload hx hb dA_valueOf_24 (lv_at hl 0 rfl) ?_
    refine pu_S (cA_highest l _) rfl kA_A_highest hS bl_T trivial rfl ⟨Nat.le_of_ble_eq_true rfl, Nat.le_of_ble_eq_true rfl⟩ hl.1 rfl (Nat.le_of_ble_eq_true rfl) ⟨Nat.zero_le _, Nat.zero_le _⟩ dA_valueOf_26 ?_
    refine lv_iadd hx hb dA_valueOf_29 ?_
    exact pu_iret hx hb hr hlk dA_valueOf_30 (by subst ex2 ex1; first | contradiction | ((try simp only [f_valueOf, v_1, v_2, v_3, if_neg hc3]) <;> rfl))
section PZ
variable {p : Program} {l : Launch} {e : Env} {R : Room} {s : State} {m : MethodId} {args : Array Value} {below : List Frame} {meth : Method} {c : Code} {cc : ByteArray} {pc : Nat} {ls : Array Slot}
theorem pu_zret {r v : Int32} (hexec : p.tables.exec = Jvm.exec) (hb : c.code = cc) (hr : meth.sig.returnType = some .boolean) (hlocks : meth.locks = false) (hdg : decode cc pc = .ok (.ireturn, 1)) (h01 : v = 0 ∨ v = 1) (hv : v = r) :
    W p l e R s m args below meth c s.heap [] 0 0 (MQ below (pu_Q (.int r)) args s 0 0 (fun _ => False)) (F0 m pc ls [.int v]) := by
  subst hv
  refine W.zret hexec hb hr ?_ (fun t ht _ => ⟨rfl, ht⟩) (fun q h => by cases h) hdg hlocks
  rcases h01 with h | h <;> subst h <;> rfl
end PZ
def f_five (x : Int64) (v : Int32) : Int32 := if f_bc x = 5 then if f_valueOf x = v then 1 else 0 else 0
def f_behind (k : Int32) (o : Int64) : Int32 := f_written (jl 1 (4 * k)) 0 + f_written (f_beside o k) 1
def f_rowp (q : Int32) : Int32 :=
  let ps := f_ranksAt (q / 11) 2
  f_written ps 0 + f_written (f_beside (f_beside (f_ranksAt (jrem q 11) 1) (f_highest (f_without ps (f_highest ps)))) (f_highest ps)) 2
def f_rowAt (c q : Int32) : Int32 :=
  if c = 1 then f_behind (q / 220) (f_ranksAt (jrem q 220) 3) else if c = 2 then f_rowp q else if c = 3 then f_behind (q / 66) (f_ranksAt (jrem q 66) 2)
  else if c = 4 then f_written (jl 1 (4 * (q + 3))) 0 else if c = 5 then f_written (f_rbs q) 0 else if c = 6 then f_behind (q / 12) (f_ranksAt (jrem q 12) 1)
  else if c = 7 then f_behind (q / 12) (f_ranksAt (jrem q 12) 1) else if c = 8 then f_written (jl 1 (4 * (q + 3))) 0 else f_written (f_rbs q) 0
theorem sw_o {c : Int32} (h1 : ¬ c = 1) (h2 : ¬ c = 2) (h3 : ¬ c = 3) (h4 : ¬ c = 4) (h5 : ¬ c = 5) (h6 : ¬ c = 6) (h7 : ¬ c = 7) (h8 : ¬ c = 8) : c.toInt < 1 ∨ 8 < c.toInt := by
  have g1 := lv_neT h1 (a := 1) rfl
  have g2 := lv_neT h2 (a := 2) rfl
  have g3 := lv_neT h3 (a := 3) rfl
  have g4 := lv_neT h4 (a := 4) rfl
  have g5 := lv_neT h5 (a := 5) rfl
  have g6 := lv_neT h6 (a := 6) rfl
  have g7 := lv_neT h7 (a := 7) rfl
  have g8 := lv_neT h8 (a := 8) rfl
  omega
def f_outcome (k b w : Int32) : Int32 :=
  if w &&& jli 1 k = 0 then 0 else if w = jli 1 k then (if b = 1 then 0 else 1) else (if b = 0 then 0 else 1)
set_option maxHeartbeats 4000000 in
set_option maxRecDepth 100000 in
theorem cA_isFiveWorth (l : Launch) (x : Int64) (v : Int32)  : pu_M l yA_isFiveWorth bA_isFiveWorth 3 (some .boolean) 5 [.long x, .int v] ta_F (.int (f_five x v)) := by
  refine Met.ofW (cc := bA_isFiveWorth) (maxL := 3) (ret := (some .boolean)) (by decide) rfl ?_
  intro p e s m args below meth c s₁ BB hml hv
  obtain ⟨rfl, hB⟩ := hv
  have hx := BB.exec
  have hb := BB.bytes
  have hr := BB.returns
  have hlk := BB.notSynchronized
  have hts := atoms_spec (ws := wd yA_isFiveWorth bA_isFiveWorth 3 (some .boolean)) BB.pre
  have hown : s.vm.findClass "HandTables" = some m.cls := findClass_of_methodNamed BB.named
  have hS : CallFix p m c bA_isFiveWorth 3 s _ (wd yA_isFiveWorth bA_isFiveWorth 3 (some .boolean)) "HandTables" := ⟨hx, hb, hml, hown, hts⟩
  obtain ⟨⟨t1, hT1⟩, ⟨t2, hT2⟩, ⟨t3, hT3⟩, ⟨t4, hT4⟩⟩ := id hB
  have hl := lv_entry ([.long x, .int v]) (n := 3) (Nat.le_of_ble_eq_true rfl)
  rw [lg_entry_eq]
  generalize (lg_sl ([.long x, .int v]) ++ List.replicate (3 - (lg_sl ([.long x, .int v])).length) Slot.unset).toArray = ls at hl ⊢
  have hl : lv_has ls 3 [(0, .long x), (2, .int v)] := hl
  refine lv_lload_n hx hb dA_isFiveWorth_0 rfl (lv_at hl 0 rfl) ?_
  refine pu_S (cJ_bitCount l _) rfl kA_J_bitCount hS bl_T trivial rfl ⟨Nat.le_of_ble_eq_true rfl, Nat.le_of_ble_eq_true rfl⟩ hl.1 rfl (Nat.le_of_ble_eq_true rfl) ⟨Nat.zero_le _, Nat.zero_le _⟩ dA_isFiveWorth_1 ?_
  refine lv_iconst (v := 5) hx hb dA_isFiveWorth_4 (by decide) ?_
  refine lv_icmp_ne (tgt := 20) hx hb dA_isFiveWorth_5 (by decide) (fun hc1 => ?_) (fun hc1 => ?_)
  · refine lv_iconst (v := 0) hx hb dA_isFiveWorth_20 (by decide) ?_
    exact pu_zret hx hb hr hlk dA_isFiveWorth_21 (by decide) (by first | contradiction | ((try simp only [f_five, if_neg hc1]) <;> rfl))
  · refine lv_lload_n hx hb dA_isFiveWorth_8 rfl (lv_at hl 0 rfl) ?_
    refine pu_S (cA_valueOf l _) rfl kA_A_valueOf hS bl_ta hB rfl ⟨Nat.le_of_ble_eq_true rfl, Nat.le_of_ble_eq_true rfl⟩ hl.1 rfl (Nat.le_of_ble_eq_true rfl) ⟨Nat.zero_le _, Nat.zero_le _⟩ dA_isFiveWorth_9 ?_
    refine lv_iload_n hx hb dA_isFiveWorth_12 rfl (lv_at hl 1 rfl) ?_
    refine lv_icmp_ne (tgt := 20) hx hb dA_isFiveWorth_13 (by decide) (fun hc2 => ?_) (fun hc2 => ?_)
    · refine lv_iconst (v := 0) hx hb dA_isFiveWorth_20 (by decide) ?_
      exact pu_zret hx hb hr hlk dA_isFiveWorth_21 (by decide) (by first | contradiction | ((try simp only [f_five, if_pos hc1, if_neg hc2]) <;> rfl))
    · refine lv_iconst (v := 1) hx hb dA_isFiveWorth_16 (by decide) ?_
      refine lv_goto (tgt := 21) hx hb dA_isFiveWorth_17 (by decide) ?_
      exact pu_zret hx hb hr hlk dA_isFiveWorth_21 (by decide) (by first | contradiction | ((try simp only [f_five, if_pos hc1, if_pos hc2]) <;> rfl))
set_option maxHeartbeats 4000000 in
set_option maxRecDepth 100000 in
theorem cA_rowBehind (l : Launch) (k : Int32) (o : Int64)  : pu_M l yA_rowBehind bA_rowBehind 3 (some .int) 1 [.int k, .long o] (fun _ => True) (.int (f_behind k o)) := by
  refine Met.ofW (cc := bA_rowBehind) (maxL := 3) (ret := (some .int)) (by decide) rfl ?_
  intro p e s m args below meth c s₁ BB hml hv
  obtain ⟨rfl, hB⟩ := hv
  have hx := BB.exec
  have hb := BB.bytes
  have hr := BB.returns
  have hlk := BB.notSynchronized
  have hts := atoms_spec (ws := wd yA_rowBehind bA_rowBehind 3 (some .int)) BB.pre
  have hown : s.vm.findClass "HandTables" = some m.cls := findClass_of_methodNamed BB.named
  have hS : CallFix p m c bA_rowBehind 3 s _ (wd yA_rowBehind bA_rowBehind 3 (some .int)) "HandTables" := ⟨hx, hb, hml, hown, hts⟩
  have hl := lv_entry ([.int k, .long o]) (n := 3) (Nat.le_of_ble_eq_true rfl)
  rw [lg_entry_eq]
  generalize (lg_sl ([.int k, .long o]) ++ List.replicate (3 - (lg_sl ([.int k, .long o])).length) Slot.unset).toArray = ls at hl ⊢
  have hl : lv_has ls 3 [(0, .int k), (1, .long o)] := hl
  refine lv_lconst (v := 1) hx hb dA_rowBehind_0 (by decide) ?_
  refine lv_iconst (v := 4) hx hb dA_rowBehind_1 (by decide) ?_
  refine lv_iload_n hx hb dA_rowBehind_2 rfl (lv_at hl 0 rfl) ?_
  refine lv_imul hx hb dA_rowBehind_3 ?_
  refine jv_lshl hx hb dA_rowBehind_4 ?_
  refine lv_iconst (v := 0) hx hb dA_rowBehind_5 (by decide) ?_
  refine pu_S (cA_written l _ _) rfl kA_A_written hS bl_T trivial rfl ⟨Nat.le_of_ble_eq_true rfl, Nat.le_of_ble_eq_true rfl⟩ hl.1 rfl (Nat.le_of_ble_eq_true rfl) ⟨Nat.zero_le _, Nat.zero_le _⟩ dA_rowBehind_6 ?_
  refine lv_lload_n hx hb dA_rowBehind_9 rfl (lv_at hl 1 rfl) ?_
  refine lv_iload_n hx hb dA_rowBehind_10 rfl (lv_at hl 0 rfl) ?_
  refine pu_S (cA_beside l _ _) rfl kA_A_beside hS bl_T trivial rfl ⟨Nat.le_of_ble_eq_true rfl, Nat.le_of_ble_eq_true rfl⟩ hl.1 rfl (Nat.le_of_ble_eq_true rfl) ⟨Nat.zero_le _, Nat.zero_le _⟩ dA_rowBehind_11 ?_
  refine lv_iconst (v := 1) hx hb dA_rowBehind_14 (by decide) ?_
  refine pu_S (cA_written l _ _) rfl kA_A_written hS bl_T trivial rfl ⟨Nat.le_of_ble_eq_true rfl, Nat.le_of_ble_eq_true rfl⟩ hl.1 rfl (Nat.le_of_ble_eq_true rfl) ⟨Nat.zero_le _, Nat.zero_le _⟩ dA_rowBehind_15 ?_
  refine lv_iadd hx hb dA_rowBehind_18 ?_
  exact pu_iret hx hb hr hlk dA_rowBehind_19 (by rfl)
set_option maxHeartbeats 4000000 in
set_option maxRecDepth 100000 in
theorem cA_rowOfPairs (l : Launch) (q : Int32)  : pu_M l yA_rowOfPairs bA_rowOfPairs 7 (some .int) 2 [.int q] ta_F (.int (f_rowp q)) := by
  refine Met.ofW (cc := bA_rowOfPairs) (maxL := 7) (ret := (some .int)) (by decide) rfl ?_
  intro p e s m args below meth c s₁ BB hml hv
  obtain ⟨rfl, hB⟩ := hv
  have hx := BB.exec
  have hb := BB.bytes
  have hr := BB.returns
  have hlk := BB.notSynchronized
  have hts := atoms_spec (ws := wd yA_rowOfPairs bA_rowOfPairs 7 (some .int)) BB.pre
  have hown : s.vm.findClass "HandTables" = some m.cls := findClass_of_methodNamed BB.named
  have hS : CallFix p m c bA_rowOfPairs 7 s _ (wd yA_rowOfPairs bA_rowOfPairs 7 (some .int)) "HandTables" := ⟨hx, hb, hml, hown, hts⟩
  obtain ⟨⟨t1, hT1⟩, ⟨t2, hT2⟩, ⟨t3, hT3⟩, ⟨t4, hT4⟩⟩ := id hB
  have hl := lv_entry ([.int q]) (n := 7) (Nat.le_of_ble_eq_true rfl)
  rw [lg_entry_eq]
  generalize (lg_sl ([.int q]) ++ List.replicate (7 - (lg_sl ([.int q])).length) Slot.unset).toArray = ls at hl ⊢
  have hl : lv_has ls 7 [(0, .int q)] := hl
  refine lv_iload_n hx hb dA_rowOfPairs_0 rfl (lv_at hl 0 rfl) ?_
  refine lv_bipush (v := 11) hx hb dA_rowOfPairs_1 (by decide) ?_
  refine lv_idiv hx hb dA_rowOfPairs_3 (by decide) ?_
  refine lv_iconst (v := 2) hx hb dA_rowOfPairs_4 (by decide) ?_
  refine pu_S (cA_ranksAt l _ 2 (by decide)) rfl kA_A_ranksAt hS bl_ta hB rfl ⟨Nat.le_of_ble_eq_true rfl, Nat.le_of_ble_eq_true rfl⟩ hl.1 rfl (Nat.le_of_ble_eq_true rfl) ⟨Nat.zero_le _, Nat.zero_le _⟩ dA_rowOfPairs_5 ?_
  refine lv_topl (fun x1 ex1 => ?_)
  refine lv_lstore_n (lv' := [(1, .long x1), (0, .int q)]) hx hb dA_rowOfPairs_8 rfl hl (by decide) rfl (fun ls hl => ?_)
  refine lv_lload_n hx hb dA_rowOfPairs_9 rfl (lv_at hl 0 rfl) ?_
  refine pu_S (cA_highest l _) rfl kA_A_highest hS bl_T trivial rfl ⟨Nat.le_of_ble_eq_true rfl, Nat.le_of_ble_eq_true rfl⟩ hl.1 rfl (Nat.le_of_ble_eq_true rfl) ⟨Nat.zero_le _, Nat.zero_le _⟩ dA_rowOfPairs_10 ?_
  refine lv_topi (fun x2 ex2 => ?_)
  refine lv_istore_n (lv' := [(3, .int x2), (1, .long x1), (0, .int q)]) hx hb dA_rowOfPairs_13 rfl hl (by decide) rfl (fun ls hl => ?_)
  refine lv_lload_n hx hb dA_rowOfPairs_14 rfl (lv_at hl 1 rfl) ?_
  refine lv_iload_n hx hb dA_rowOfPairs_15 rfl (lv_at hl 0 rfl) ?_
  refine pu_S (cA_without l _ _) rfl kA_A_without hS bl_T trivial rfl ⟨Nat.le_of_ble_eq_true rfl, Nat.le_of_ble_eq_true rfl⟩ hl.1 rfl (Nat.le_of_ble_eq_true rfl) ⟨Nat.zero_le _, Nat.zero_le _⟩ dA_rowOfPairs_16 ?_
  refine pu_S (cA_highest l _) rfl kA_A_highest hS bl_T trivial rfl ⟨Nat.le_of_ble_eq_true rfl, Nat.le_of_ble_eq_true rfl⟩ hl.1 rfl (Nat.le_of_ble_eq_true rfl) ⟨Nat.zero_le _, Nat.zero_le _⟩ dA_rowOfPairs_19 ?_
  refine lv_topi (fun x3 ex3 => ?_)
  refine lv_istore (lv' := [(4, .int x3), (3, .int x2), (1, .long x1), (0, .int q)]) hx hb dA_rowOfPairs_22 hl (by decide) rfl (fun ls hl => ?_)
  refine lv_iload_n hx hb dA_rowOfPairs_24 rfl (lv_at hl 3 rfl) ?_
  refine lv_bipush (v := 11) hx hb dA_rowOfPairs_25 (by decide) ?_
  refine jv_irem hx hb dA_rowOfPairs_27 (by decide) ?_
  refine lv_iconst (v := 1) hx hb dA_rowOfPairs_28 (by decide) ?_
  refine pu_S (cA_ranksAt l _ 1 (by decide)) rfl kA_A_ranksAt hS bl_ta hB rfl ⟨Nat.le_of_ble_eq_true rfl, Nat.le_of_ble_eq_true rfl⟩ hl.1 rfl (Nat.le_of_ble_eq_true rfl) ⟨Nat.zero_le _, Nat.zero_le _⟩ dA_rowOfPairs_29 ?_
  refine lv_iload hx hb dA_rowOfPairs_32 (lv_at hl 0 rfl) ?_
  refine pu_S (cA_beside l _ _) rfl kA_A_beside hS bl_T trivial rfl ⟨Nat.le_of_ble_eq_true rfl, Nat.le_of_ble_eq_true rfl⟩ hl.1 rfl (Nat.le_of_ble_eq_true rfl) ⟨Nat.zero_le _, Nat.zero_le _⟩ dA_rowOfPairs_34 ?_
  refine lv_iload_n hx hb dA_rowOfPairs_37 rfl (lv_at hl 1 rfl) ?_
  refine pu_S (cA_beside l _ _) rfl kA_A_beside hS bl_T trivial rfl ⟨Nat.le_of_ble_eq_true rfl, Nat.le_of_ble_eq_true rfl⟩ hl.1 rfl (Nat.le_of_ble_eq_true rfl) ⟨Nat.zero_le _, Nat.zero_le _⟩ dA_rowOfPairs_38 ?_
  refine lv_topl (fun x4 ex4 => ?_)
  refine lv_lstore (lv' := [(5, .long x4), (4, .int x3), (3, .int x2), (1, .long x1), (0, .int q)]) hx hb dA_rowOfPairs_41 hl (by decide) rfl (fun ls hl => ?_)
  refine lv_lload_n hx hb dA_rowOfPairs_43 rfl (lv_at hl 3 rfl) ?_
  refine lv_iconst (v := 0) hx hb dA_rowOfPairs_44 (by decide) ?_
  refine pu_S (cA_written l _ _) rfl kA_A_written hS bl_T trivial rfl ⟨Nat.le_of_ble_eq_true rfl, Nat.le_of_ble_eq_true rfl⟩ hl.1 rfl (Nat.le_of_ble_eq_true rfl) ⟨Nat.zero_le _, Nat.zero_le _⟩ dA_rowOfPairs_45 ?_
  refine lv_lload hx hb dA_rowOfPairs_48 (lv_at hl 0 rfl) ?_
  refine lv_iconst (v := 2) hx hb dA_rowOfPairs_50 (by decide) ?_
  refine pu_S (cA_written l _ _) rfl kA_A_written hS bl_T trivial rfl ⟨Nat.le_of_ble_eq_true rfl, Nat.le_of_ble_eq_true rfl⟩ hl.1 rfl (Nat.le_of_ble_eq_true rfl) ⟨Nat.zero_le _, Nat.zero_le _⟩ dA_rowOfPairs_51 ?_
  refine lv_iadd hx hb dA_rowOfPairs_54 ?_
  exact pu_iret hx hb hr hlk dA_rowOfPairs_55 (by subst ex4 ex3 ex2 ex1; rfl)
set_option maxHeartbeats 4000000 in
set_option maxRecDepth 100000 in
theorem cA_rowAt (l : Launch) (ca : Int32) (q : Int32)  : pu_M l yA_rowAt bA_rowAt 2 (some .int) 3 [.int ca, .int q] ta_F (.int (f_rowAt ca q)) := by
  refine Met.ofW (cc := bA_rowAt) (maxL := 2) (ret := (some .int)) (by decide) rfl ?_
  intro p e s m args below meth c s₁ BB hml hv
  obtain ⟨rfl, hB⟩ := hv
  have hx := BB.exec
  have hb := BB.bytes
  have hr := BB.returns
  have hlk := BB.notSynchronized
  have hts := atoms_spec (ws := wd yA_rowAt bA_rowAt 2 (some .int)) BB.pre
  have hown : s.vm.findClass "HandTables" = some m.cls := findClass_of_methodNamed BB.named
  have hS : CallFix p m c bA_rowAt 2 s _ (wd yA_rowAt bA_rowAt 2 (some .int)) "HandTables" := ⟨hx, hb, hml, hown, hts⟩
  obtain ⟨⟨t1, hT1⟩, ⟨t2, hT2⟩, ⟨t3, hT3⟩, ⟨t4, hT4⟩⟩ := id hB
  have hl := lv_entry ([.int ca, .int q]) (n := 2) (Nat.le_of_ble_eq_true rfl)
  rw [lg_entry_eq]
  generalize (lg_sl ([.int ca, .int q]) ++ List.replicate (2 - (lg_sl ([.int ca, .int q])).length) Slot.unset).toArray = ls at hl ⊢
  have hl : lv_has ls 2 [(0, .int ca), (1, .int q)] := hl
  refine lv_iload_n hx hb dA_rowAt_0 rfl (lv_at hl 0 rfl) ?_
  by_cases hc1 : ca = 1
  · refine lv_tableIn (off := 96) (tgt := 97) hx hb dA_rowAt_1 (by rw [hc1]; decide) (by rw [hc1]; decide) (by rw [hc1]; rfl) (by decide) ?_
    refine lv_iload_n hx hb dA_rowAt_97 rfl (lv_at hl 1 rfl) ?_
    refine lv_sipush (v := 220) hx hb dA_rowAt_98 (by decide) ?_
    refine lv_idiv hx hb dA_rowAt_101 (by decide) ?_
    refine lv_iload_n hx hb dA_rowAt_102 rfl (lv_at hl 1 rfl) ?_
    refine lv_sipush (v := 220) hx hb dA_rowAt_103 (by decide) ?_
    refine jv_irem hx hb dA_rowAt_106 (by decide) ?_
    refine lv_iconst (v := 3) hx hb dA_rowAt_107 (by decide) ?_
    refine pu_S (cA_ranksAt l _ 3 (by decide)) rfl kA_A_ranksAt hS bl_ta hB rfl ⟨Nat.le_of_ble_eq_true rfl, Nat.le_of_ble_eq_true rfl⟩ hl.1 rfl (Nat.le_of_ble_eq_true rfl) ⟨Nat.zero_le _, Nat.zero_le _⟩ dA_rowAt_108 ?_
    refine pu_S (cA_rowBehind l _ _) rfl kA_A_rowBehind hS bl_T trivial rfl ⟨Nat.le_of_ble_eq_true rfl, Nat.le_of_ble_eq_true rfl⟩ hl.1 rfl (Nat.le_of_ble_eq_true rfl) ⟨Nat.zero_le _, Nat.zero_le _⟩ dA_rowAt_111 ?_
    exact pu_iret hx hb hr hlk dA_rowAt_114 (by first | contradiction | ((try simp only [f_rowAt, if_pos hc1]) <;> rfl))
  by_cases hc2 : ca = 2
  · refine lv_tableIn (off := 91) (tgt := 92) hx hb dA_rowAt_1 (by rw [hc2]; decide) (by rw [hc2]; decide) (by rw [hc2]; rfl) (by decide) ?_
    refine lv_iload_n hx hb dA_rowAt_92 rfl (lv_at hl 1 rfl) ?_
    refine pu_S (cA_rowOfPairs l _) rfl kA_A_rowOfPairs hS bl_ta hB rfl ⟨Nat.le_of_ble_eq_true rfl, Nat.le_of_ble_eq_true rfl⟩ hl.1 rfl (Nat.le_of_ble_eq_true rfl) ⟨Nat.zero_le _, Nat.zero_le _⟩ dA_rowAt_93 ?_
    exact pu_iret hx hb hr hlk dA_rowAt_96 (by first | contradiction | ((try simp only [f_rowAt, if_neg hc1, if_pos hc2]) <;> rfl))
  by_cases hc3 : ca = 3
  · refine lv_tableIn (off := 75) (tgt := 76) hx hb dA_rowAt_1 (by rw [hc3]; decide) (by rw [hc3]; decide) (by rw [hc3]; rfl) (by decide) ?_
    refine lv_iload_n hx hb dA_rowAt_76 rfl (lv_at hl 1 rfl) ?_
    refine lv_bipush (v := 66) hx hb dA_rowAt_77 (by decide) ?_
    refine lv_idiv hx hb dA_rowAt_79 (by decide) ?_
    refine lv_iload_n hx hb dA_rowAt_80 rfl (lv_at hl 1 rfl) ?_
    refine lv_bipush (v := 66) hx hb dA_rowAt_81 (by decide) ?_
    refine jv_irem hx hb dA_rowAt_83 (by decide) ?_
    refine lv_iconst (v := 2) hx hb dA_rowAt_84 (by decide) ?_
    refine pu_S (cA_ranksAt l _ 2 (by decide)) rfl kA_A_ranksAt hS bl_ta hB rfl ⟨Nat.le_of_ble_eq_true rfl, Nat.le_of_ble_eq_true rfl⟩ hl.1 rfl (Nat.le_of_ble_eq_true rfl) ⟨Nat.zero_le _, Nat.zero_le _⟩ dA_rowAt_85 ?_
    refine pu_S (cA_rowBehind l _ _) rfl kA_A_rowBehind hS bl_T trivial rfl ⟨Nat.le_of_ble_eq_true rfl, Nat.le_of_ble_eq_true rfl⟩ hl.1 rfl (Nat.le_of_ble_eq_true rfl) ⟨Nat.zero_le _, Nat.zero_le _⟩ dA_rowAt_88 ?_
    exact pu_iret hx hb hr hlk dA_rowAt_91 (by first | contradiction | ((try simp only [f_rowAt, if_neg hc1, if_neg hc2, if_pos hc3]) <;> rfl))
  by_cases hc4 : ca = 4
  · refine lv_tableIn (off := 47) (tgt := 48) hx hb dA_rowAt_1 (by rw [hc4]; decide) (by rw [hc4]; decide) (by rw [hc4]; rfl) (by decide) ?_
    refine lv_lconst (v := 1) hx hb dA_rowAt_48 (by decide) ?_
    refine lv_iconst (v := 4) hx hb dA_rowAt_49 (by decide) ?_
    refine lv_iload_n hx hb dA_rowAt_50 rfl (lv_at hl 1 rfl) ?_
    refine lv_iconst (v := 3) hx hb dA_rowAt_51 (by decide) ?_
    refine lv_iadd hx hb dA_rowAt_52 ?_
    refine lv_imul hx hb dA_rowAt_53 ?_
    refine jv_lshl hx hb dA_rowAt_54 ?_
    refine lv_iconst (v := 0) hx hb dA_rowAt_55 (by decide) ?_
    refine pu_S (cA_written l _ _) rfl kA_A_written hS bl_T trivial rfl ⟨Nat.le_of_ble_eq_true rfl, Nat.le_of_ble_eq_true rfl⟩ hl.1 rfl (Nat.le_of_ble_eq_true rfl) ⟨Nat.zero_le _, Nat.zero_le _⟩ dA_rowAt_56 ?_
    exact pu_iret hx hb hr hlk dA_rowAt_59 (by first | contradiction | ((try simp only [f_rowAt, if_neg hc1, if_neg hc2, if_neg hc3, if_pos hc4]) <;> rfl))
  by_cases hc5 : ca = 5
  · refine lv_tableIn (off := 114) (tgt := 115) hx hb dA_rowAt_1 (by rw [hc5]; decide) (by rw [hc5]; decide) (by rw [hc5]; rfl) (by decide) ?_
    refine lv_iload_n hx hb dA_rowAt_115 rfl (lv_at hl 1 rfl) ?_
    refine pu_S (cA_ranksBesideStraights l _) rfl kA_A_ranksBesideStraights hS bl_ta hB rfl ⟨Nat.le_of_ble_eq_true rfl, Nat.le_of_ble_eq_true rfl⟩ hl.1 rfl (Nat.le_of_ble_eq_true rfl) ⟨Nat.zero_le _, Nat.zero_le _⟩ dA_rowAt_116 ?_
    refine lv_iconst (v := 0) hx hb dA_rowAt_119 (by decide) ?_
    refine pu_S (cA_written l _ _) rfl kA_A_written hS bl_T trivial rfl ⟨Nat.le_of_ble_eq_true rfl, Nat.le_of_ble_eq_true rfl⟩ hl.1 rfl (Nat.le_of_ble_eq_true rfl) ⟨Nat.zero_le _, Nat.zero_le _⟩ dA_rowAt_120 ?_
    exact pu_iret hx hb hr hlk dA_rowAt_123 (by first | contradiction | ((try simp only [f_rowAt, if_neg hc1, if_neg hc2, if_neg hc3, if_neg hc4, if_pos hc5]) <;> rfl))
  by_cases hc6 : ca = 6
  · refine lv_tableIn (off := 59) (tgt := 60) hx hb dA_rowAt_1 (by rw [hc6]; decide) (by rw [hc6]; decide) (by rw [hc6]; rfl) (by decide) ?_
    refine lv_iload_n hx hb dA_rowAt_60 rfl (lv_at hl 1 rfl) ?_
    refine lv_bipush (v := 12) hx hb dA_rowAt_61 (by decide) ?_
    refine lv_idiv hx hb dA_rowAt_63 (by decide) ?_
    refine lv_iload_n hx hb dA_rowAt_64 rfl (lv_at hl 1 rfl) ?_
    refine lv_bipush (v := 12) hx hb dA_rowAt_65 (by decide) ?_
    refine jv_irem hx hb dA_rowAt_67 (by decide) ?_
    refine lv_iconst (v := 1) hx hb dA_rowAt_68 (by decide) ?_
    refine pu_S (cA_ranksAt l _ 1 (by decide)) rfl kA_A_ranksAt hS bl_ta hB rfl ⟨Nat.le_of_ble_eq_true rfl, Nat.le_of_ble_eq_true rfl⟩ hl.1 rfl (Nat.le_of_ble_eq_true rfl) ⟨Nat.zero_le _, Nat.zero_le _⟩ dA_rowAt_69 ?_
    refine pu_S (cA_rowBehind l _ _) rfl kA_A_rowBehind hS bl_T trivial rfl ⟨Nat.le_of_ble_eq_true rfl, Nat.le_of_ble_eq_true rfl⟩ hl.1 rfl (Nat.le_of_ble_eq_true rfl) ⟨Nat.zero_le _, Nat.zero_le _⟩ dA_rowAt_72 ?_
    exact pu_iret hx hb hr hlk dA_rowAt_75 (by first | contradiction | ((try simp only [f_rowAt, if_neg hc1, if_neg hc2, if_neg hc3, if_neg hc4, if_neg hc5, if_pos hc6]) <;> rfl))
  by_cases hc7 : ca = 7
  · refine lv_tableIn (off := 59) (tgt := 60) hx hb dA_rowAt_1 (by rw [hc7]; decide) (by rw [hc7]; decide) (by rw [hc7]; rfl) (by decide) ?_
    refine lv_iload_n hx hb dA_rowAt_60 rfl (lv_at hl 1 rfl) ?_
    refine lv_bipush (v := 12) hx hb dA_rowAt_61 (by decide) ?_
    refine lv_idiv hx hb dA_rowAt_63 (by decide) ?_
    refine lv_iload_n hx hb dA_rowAt_64 rfl (lv_at hl 1 rfl) ?_
    refine lv_bipush (v := 12) hx hb dA_rowAt_65 (by decide) ?_
    refine jv_irem hx hb dA_rowAt_67 (by decide) ?_
    refine lv_iconst (v := 1) hx hb dA_rowAt_68 (by decide) ?_
    refine pu_S (cA_ranksAt l _ 1 (by decide)) rfl kA_A_ranksAt hS bl_ta hB rfl ⟨Nat.le_of_ble_eq_true rfl, Nat.le_of_ble_eq_true rfl⟩ hl.1 rfl (Nat.le_of_ble_eq_true rfl) ⟨Nat.zero_le _, Nat.zero_le _⟩ dA_rowAt_69 ?_
    refine pu_S (cA_rowBehind l _ _) rfl kA_A_rowBehind hS bl_T trivial rfl ⟨Nat.le_of_ble_eq_true rfl, Nat.le_of_ble_eq_true rfl⟩ hl.1 rfl (Nat.le_of_ble_eq_true rfl) ⟨Nat.zero_le _, Nat.zero_le _⟩ dA_rowAt_72 ?_
    exact pu_iret hx hb hr hlk dA_rowAt_75 (by first | contradiction | ((try simp only [f_rowAt, if_neg hc1, if_neg hc2, if_neg hc3, if_neg hc4, if_neg hc5, if_neg hc6, if_pos hc7]) <;> rfl))
  by_cases hc8 : ca = 8
  · refine lv_tableIn (off := 47) (tgt := 48) hx hb dA_rowAt_1 (by rw [hc8]; decide) (by rw [hc8]; decide) (by rw [hc8]; rfl) (by decide) ?_
    refine lv_lconst (v := 1) hx hb dA_rowAt_48 (by decide) ?_
    refine lv_iconst (v := 4) hx hb dA_rowAt_49 (by decide) ?_
    refine lv_iload_n hx hb dA_rowAt_50 rfl (lv_at hl 1 rfl) ?_
    refine lv_iconst (v := 3) hx hb dA_rowAt_51 (by decide) ?_
    refine lv_iadd hx hb dA_rowAt_52 ?_
    refine lv_imul hx hb dA_rowAt_53 ?_
    refine jv_lshl hx hb dA_rowAt_54 ?_
    refine lv_iconst (v := 0) hx hb dA_rowAt_55 (by decide) ?_
    refine pu_S (cA_written l _ _) rfl kA_A_written hS bl_T trivial rfl ⟨Nat.le_of_ble_eq_true rfl, Nat.le_of_ble_eq_true rfl⟩ hl.1 rfl (Nat.le_of_ble_eq_true rfl) ⟨Nat.zero_le _, Nat.zero_le _⟩ dA_rowAt_56 ?_
    exact pu_iret hx hb hr hlk dA_rowAt_59 (by first | contradiction | ((try simp only [f_rowAt, if_neg hc1, if_neg hc2, if_neg hc3, if_neg hc4, if_neg hc5, if_neg hc6, if_neg hc7, if_pos hc8]) <;> rfl))
  refine lv_tableOut (tgt := 115) hx hb dA_rowAt_1 (sw_o hc1 hc2 hc3 hc4 hc5 hc6 hc7 hc8) (by decide) ?_
  refine lv_iload_n hx hb dA_rowAt_115 rfl (lv_at hl 1 rfl) ?_
  refine pu_S (cA_ranksBesideStraights l _) rfl kA_A_ranksBesideStraights hS bl_ta hB rfl ⟨Nat.le_of_ble_eq_true rfl, Nat.le_of_ble_eq_true rfl⟩ hl.1 rfl (Nat.le_of_ble_eq_true rfl) ⟨Nat.zero_le _, Nat.zero_le _⟩ dA_rowAt_116 ?_
  refine lv_iconst (v := 0) hx hb dA_rowAt_119 (by decide) ?_
  refine pu_S (cA_written l _ _) rfl kA_A_written hS bl_T trivial rfl ⟨Nat.le_of_ble_eq_true rfl, Nat.le_of_ble_eq_true rfl⟩ hl.1 rfl (Nat.le_of_ble_eq_true rfl) ⟨Nat.zero_le _, Nat.zero_le _⟩ dA_rowAt_120 ?_
  exact pu_iret hx hb hr hlk dA_rowAt_123 (by first | contradiction | ((try simp only [f_rowAt, if_neg hc1, if_neg hc2, if_neg hc3, if_neg hc4, if_neg hc5, if_neg hc6, if_neg hc7, if_neg hc8]) <;> rfl))
set_option maxHeartbeats 4000000 in
set_option maxRecDepth 100000 in
theorem cA_isOutcome (l : Launch) (k : Int32) (b : Int32) (w : Int32)  : pu_M l yA_isOutcome bA_isOutcome 5 (some .boolean) 0 [.int k, .int b, .int w] (fun _ => True) (.int (f_outcome k b w)) := by
  refine Met.ofW (cc := bA_isOutcome) (maxL := 5) (ret := (some .boolean)) (by decide) rfl ?_
  intro p e s m args below meth c s₁ BB hml hv
  obtain ⟨rfl, hB⟩ := hv
  have hx := BB.exec
  have hb := BB.bytes
  have hr := BB.returns
  have hlk := BB.notSynchronized
  have hts := atoms_spec (ws := wd yA_isOutcome bA_isOutcome 5 (some .boolean)) BB.pre
  have hown : s.vm.findClass "HandTables" = some m.cls := findClass_of_methodNamed BB.named
  have hS : CallFix p m c bA_isOutcome 5 s _ (wd yA_isOutcome bA_isOutcome 5 (some .boolean)) "HandTables" := ⟨hx, hb, hml, hown, hts⟩
  have hl := lv_entry ([.int k, .int b, .int w]) (n := 5) (Nat.le_of_ble_eq_true rfl)
  rw [lg_entry_eq]
  generalize (lg_sl ([.int k, .int b, .int w]) ++ List.replicate (5 - (lg_sl ([.int k, .int b, .int w])).length) Slot.unset).toArray = ls at hl ⊢
  have hl : lv_has ls 5 [(0, .int k), (1, .int b), (2, .int w)] := hl
  refine lv_iload_n hx hb dA_isOutcome_0 rfl (lv_at hl 2 rfl) ?_
  refine lv_iconst (v := 1) hx hb dA_isOutcome_1 (by decide) ?_
  refine lv_iload_n hx hb dA_isOutcome_2 rfl (lv_at hl 0 rfl) ?_
  refine jv_ishl hx hb dA_isOutcome_3 ?_
  refine lv_iand hx hb dA_isOutcome_4 ?_
  refine lv_if_eq (tgt := 12) hx hb dA_isOutcome_5 (by decide) (fun hc1 => ?_) (fun hc1 => ?_)
  · refine lv_iconst (v := 0) hx hb dA_isOutcome_12 (by decide) ?_
    refine lv_topi (fun x2 ex2 => ?_)
    refine lv_istore_n (lv' := [(3, .int x2), (0, .int k), (1, .int b), (2, .int w)]) hx hb dA_isOutcome_13 rfl hl (by decide) rfl (fun ls hl => ?_)
    refine lv_iload_n hx hb dA_isOutcome_14 rfl (lv_at hl 3 rfl) ?_
    refine lv_iconst (v := 1) hx hb dA_isOutcome_15 (by decide) ?_
    refine lv_iload_n hx hb dA_isOutcome_16 rfl (lv_at hl 1 rfl) ?_
    refine jv_ishl hx hb dA_isOutcome_17 ?_
    refine lv_icmp_ne (tgt := 25) hx hb dA_isOutcome_18 (by decide) (fun hc3 => ?_) (fun hc3 => ?_)
    · refine lv_iconst (v := 0) hx hb dA_isOutcome_25 (by decide) ?_
      refine lv_topi (fun x4 ex4 => ?_)
      refine lv_istore (lv' := [(4, .int x4), (3, .int x2), (0, .int k), (1, .int b), (2, .int w)]) hx hb dA_isOutcome_26 hl (by decide) rfl (fun ls hl => ?_)
      refine lv_iload_n hx hb dA_isOutcome_28 rfl (lv_at hl 1 rfl) ?_
      refine lv_if_eq (tgt := 42) hx hb dA_isOutcome_29 (by decide) (fun hc5 => ?_) (fun hc5 => ?_)
      · refine lv_iconst (v := 0) hx hb dA_isOutcome_42 (by decide) ?_
        exact pu_zret hx hb hr hlk dA_isOutcome_43 (by decide) (by subst ex4 ex2; first | contradiction | ((try simp only [f_outcome, if_pos hc1, if_neg hc3, if_pos hc5]) <;> rfl))
      · refine lv_iload_n hx hb dA_isOutcome_32 rfl (lv_at hl 3 rfl) ?_
        refine lv_iload hx hb dA_isOutcome_33 (lv_at hl 0 rfl) ?_
        refine lv_icmp_eq (tgt := 42) hx hb dA_isOutcome_35 (by decide) (fun hc6 => ?_) (fun hc6 => ?_)
        · refine lv_iconst (v := 0) hx hb dA_isOutcome_42 (by decide) ?_
          exact pu_zret hx hb hr hlk dA_isOutcome_43 (by decide) (by subst ex4 ex2; first | contradiction | ((try simp only [f_outcome, if_pos hc1, if_neg hc3, if_neg hc5, if_pos hc6]) <;> rfl))
        · refine lv_iconst (v := 1) hx hb dA_isOutcome_38 (by decide) ?_
          refine lv_goto (tgt := 43) hx hb dA_isOutcome_39 (by decide) ?_
          exact pu_zret hx hb hr hlk dA_isOutcome_43 (by decide) (by subst ex4 ex2; first | contradiction | ((try simp only [f_outcome, if_pos hc1, if_neg hc3, if_neg hc5, if_neg hc6]) <;> rfl))
    · refine lv_iconst (v := 1) hx hb dA_isOutcome_21 (by decide) ?_
      refine lv_goto (tgt := 26) hx hb dA_isOutcome_22 (by decide) ?_
      refine lv_topi (fun x7 ex7 => ?_)
      refine lv_istore (lv' := [(4, .int x7), (3, .int x2), (0, .int k), (1, .int b), (2, .int w)]) hx hb dA_isOutcome_26 hl (by decide) rfl (fun ls hl => ?_)
      refine lv_iload_n hx hb dA_isOutcome_28 rfl (lv_at hl 1 rfl) ?_
      refine lv_if_eq (tgt := 42) hx hb dA_isOutcome_29 (by decide) (fun hc8 => ?_) (fun hc8 => ?_)
      · refine lv_iconst (v := 0) hx hb dA_isOutcome_42 (by decide) ?_
        exact pu_zret hx hb hr hlk dA_isOutcome_43 (by decide) (by subst ex7 ex2; first | contradiction | ((try simp only [f_outcome, if_pos hc1, if_pos hc3, if_pos hc8]) <;> rfl))
      · refine lv_iload_n hx hb dA_isOutcome_32 rfl (lv_at hl 3 rfl) ?_
        refine lv_iload hx hb dA_isOutcome_33 (lv_at hl 0 rfl) ?_
        refine lv_icmp_eq (tgt := 42) hx hb dA_isOutcome_35 (by decide) (fun hc9 => ?_) (fun hc9 => ?_)
        · refine lv_iconst (v := 0) hx hb dA_isOutcome_42 (by decide) ?_
          exact pu_zret hx hb hr hlk dA_isOutcome_43 (by decide) (by subst ex7 ex2; first | contradiction | ((try simp only [f_outcome, if_pos hc1, if_pos hc3, if_neg hc8, if_pos hc9]) <;> rfl))
        · refine lv_iconst (v := 1) hx hb dA_isOutcome_38 (by decide) ?_
          refine lv_goto (tgt := 43) hx hb dA_isOutcome_39 (by decide) ?_
          exact pu_zret hx hb hr hlk dA_isOutcome_43 (by decide) (by subst ex7 ex2; first | contradiction | ((try simp only [f_outcome, if_pos hc1, if_pos hc3, if_neg hc8, if_neg hc9]) <;> rfl))
  · refine lv_iconst (v := 1) hx hb dA_isOutcome_8 (by decide) ?_
    refine lv_goto (tgt := 13) hx hb dA_isOutcome_9 (by decide) ?_
    refine lv_topi (fun x10 ex10 => ?_)
    refine lv_istore_n (lv' := [(3, .int x10), (0, .int k), (1, .int b), (2, .int w)]) hx hb dA_isOutcome_13 rfl hl (by decide) rfl (fun ls hl => ?_)
    refine lv_iload_n hx hb dA_isOutcome_14 rfl (lv_at hl 3 rfl) ?_
    refine lv_iconst (v := 1) hx hb dA_isOutcome_15 (by decide) ?_
    refine lv_iload_n hx hb dA_isOutcome_16 rfl (lv_at hl 1 rfl) ?_
    refine jv_ishl hx hb dA_isOutcome_17 ?_
    refine lv_icmp_ne (tgt := 25) hx hb dA_isOutcome_18 (by decide) (fun hc11 => ?_) (fun hc11 => ?_)
    · refine lv_iconst (v := 0) hx hb dA_isOutcome_25 (by decide) ?_
      refine lv_topi (fun x12 ex12 => ?_)
      refine lv_istore (lv' := [(4, .int x12), (3, .int x10), (0, .int k), (1, .int b), (2, .int w)]) hx hb dA_isOutcome_26 hl (by decide) rfl (fun ls hl => ?_)
      refine lv_iload_n hx hb dA_isOutcome_28 rfl (lv_at hl 1 rfl) ?_
      refine lv_if_eq (tgt := 42) hx hb dA_isOutcome_29 (by decide) (fun hc13 => ?_) (fun hc13 => ?_)
      · refine lv_iconst (v := 0) hx hb dA_isOutcome_42 (by decide) ?_
        exact pu_zret hx hb hr hlk dA_isOutcome_43 (by decide) (by subst ex12 ex10; first | contradiction | ((try simp only [f_outcome, if_neg hc1, if_neg hc11, if_pos hc13]) <;> rfl))
      · refine lv_iload_n hx hb dA_isOutcome_32 rfl (lv_at hl 3 rfl) ?_
        refine lv_iload hx hb dA_isOutcome_33 (lv_at hl 0 rfl) ?_
        refine lv_icmp_eq (tgt := 42) hx hb dA_isOutcome_35 (by decide) (fun hc14 => ?_) (fun hc14 => ?_)
        · refine lv_iconst (v := 0) hx hb dA_isOutcome_42 (by decide) ?_
          exact pu_zret hx hb hr hlk dA_isOutcome_43 (by decide) (by subst ex12 ex10; first | contradiction | ((try simp only [f_outcome, if_neg hc1, if_neg hc11, if_neg hc13, if_pos hc14]) <;> rfl))
        · refine lv_iconst (v := 1) hx hb dA_isOutcome_38 (by decide) ?_
          refine lv_goto (tgt := 43) hx hb dA_isOutcome_39 (by decide) ?_
          exact pu_zret hx hb hr hlk dA_isOutcome_43 (by decide) (by subst ex12 ex10; first | contradiction | ((try simp only [f_outcome, if_neg hc1, if_neg hc11, if_neg hc13, if_neg hc14]) <;> rfl))
    · refine lv_iconst (v := 1) hx hb dA_isOutcome_21 (by decide) ?_
      refine lv_goto (tgt := 26) hx hb dA_isOutcome_22 (by decide) ?_
      refine lv_topi (fun x15 ex15 => ?_)
      refine lv_istore (lv' := [(4, .int x15), (3, .int x10), (0, .int k), (1, .int b), (2, .int w)]) hx hb dA_isOutcome_26 hl (by decide) rfl (fun ls hl => ?_)
      refine lv_iload_n hx hb dA_isOutcome_28 rfl (lv_at hl 1 rfl) ?_
      refine lv_if_eq (tgt := 42) hx hb dA_isOutcome_29 (by decide) (fun hc16 => ?_) (fun hc16 => ?_)
      · refine lv_iconst (v := 0) hx hb dA_isOutcome_42 (by decide) ?_
        exact pu_zret hx hb hr hlk dA_isOutcome_43 (by decide) (by subst ex15 ex10; first | contradiction | ((try simp only [f_outcome, if_neg hc1, if_pos hc11, if_pos hc16]) <;> rfl))
      · refine lv_iload_n hx hb dA_isOutcome_32 rfl (lv_at hl 3 rfl) ?_
        refine lv_iload hx hb dA_isOutcome_33 (lv_at hl 0 rfl) ?_
        refine lv_icmp_eq (tgt := 42) hx hb dA_isOutcome_35 (by decide) (fun hc17 => ?_) (fun hc17 => ?_)
        · refine lv_iconst (v := 0) hx hb dA_isOutcome_42 (by decide) ?_
          exact pu_zret hx hb hr hlk dA_isOutcome_43 (by decide) (by subst ex15 ex10; first | contradiction | ((try simp only [f_outcome, if_neg hc1, if_pos hc11, if_neg hc16, if_pos hc17]) <;> rfl))
        · refine lv_iconst (v := 1) hx hb dA_isOutcome_38 (by decide) ?_
          refine lv_goto (tgt := 43) hx hb dA_isOutcome_39 (by decide) ?_
          exact pu_zret hx hb hr hlk dA_isOutcome_43 (by decide) (by subst ex15 ex10; first | contradiction | ((try simp only [f_outcome, if_neg hc1, if_pos hc11, if_neg hc16, if_neg hc17]) <;> rfl))
