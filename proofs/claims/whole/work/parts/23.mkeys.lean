/-! the model: keys of hands -/
set_option maxRecDepth 20000 in
theorem kM_M_setRanks : cv_W "HandTablesModel" 40 "HandTablesModel" yM_setRanks bM_setRanks 6 none 5 := ⟨(gw_mem 428 rfl rfl), (gw_mem 430 rfl rfl), (gw_mem 8 rfl rfl), (gw_mem 28 rfl rfl), (gw_mem 431 rfl rfl), by decide +kernel⟩
set_option maxRecDepth 20000 in
theorem kM_M_keyOf : cv_W "HandTablesModel" 44 "HandTablesModel" yM_keyOf bM_keyOf 8 (some .int) 1 := ⟨(gw_mem 432 rfl rfl), (gw_mem 434 rfl rfl), (gw_mem 9 rfl rfl), (gw_mem 28 rfl rfl), (gw_mem 435 rfl rfl), by decide +kernel⟩
set_option maxRecDepth 20000 in
theorem kM_M_addKey : cv_W "HandTablesModel" 48 "HandTablesModel" yM_addKey bM_addKey 2 none 1 := ⟨(gw_mem 445 rfl rfl), (gw_mem 447 rfl rfl), (gw_mem 12 rfl rfl), (gw_mem 28 rfl rfl), (gw_mem 448 rfl rfl), by decide +kernel⟩
set_option maxRecDepth 20000 in
theorem kM_M_sort : cv_W "HandTablesModel" 52 "HandTablesModel" yM_sort bM_sort 5 none 0 := ⟨(gw_mem 449 rfl rfl), (gw_mem 451 rfl rfl), (gw_mem 13 rfl rfl), (gw_mem 28 rfl rfl), (gw_mem 452 rfl rfl), by decide +kernel⟩
set_option maxRecDepth 20000 in
theorem kM_M_freshDeck : cv_W "HandTablesModel" 55 "HandTablesModel" yM_freshDeck bM_freshDeck 2 none 0 := ⟨(gw_mem 453 rfl rfl), (gw_mem 455 rfl rfl), (gw_mem 14 rfl rfl), (gw_mem 28 rfl rfl), (gw_mem 456 rfl rfl), by decide +kernel⟩
set_option maxRecDepth 20000 in
theorem kM_M_straight : cv_W "HandTablesModel" 65 "HandTablesModel" yM_straight bM_straight 5 (some .int) 0 := ⟨(gw_mem 436 rfl rfl), (gw_mem 438 rfl rfl), (gw_mem 10 rfl rfl), (gw_mem 28 rfl rfl), (gw_mem 439 rfl rfl), by decide +kernel⟩
set_option maxRecDepth 20000 in
theorem kM_M_with : cv_W "HandTablesModel" 69 "HandTablesModel" yM_with bM_with 4 (some .int) 1 := ⟨(gw_mem 440 rfl rfl), (gw_mem 442 rfl rfl), (gw_mem 11 rfl rfl), (gw_mem 28 rfl rfl), (gw_mem 443 rfl rfl), by decide +kernel⟩
set_option maxRecDepth 20000 in
theorem kM_M_keyOfSome : cv_W "HandTablesModel" 77 "HandTablesModel" yM_keyOfSome bM_keyOfSome 6 (some .int) 1 := ⟨(gw_mem 537 rfl rfl), (gw_mem 539 rfl rfl), (gw_mem 17 rfl rfl), (gw_mem 28 rfl rfl), (gw_mem 540 rfl rfl), by decide +kernel⟩
set_option maxRecDepth 20000 in
theorem kM_M_takeCards : cv_W "HandTablesModel" 84 "HandTablesModel" yM_takeCards bM_takeCards 4 none 1 := ⟨(gw_mem 529 rfl rfl), (gw_mem 531 rfl rfl), (gw_mem 15 rfl rfl), (gw_mem 28 rfl rfl), (gw_mem 532 rfl rfl), by decide +kernel⟩
set_option maxRecDepth 20000 in
theorem kM_M_bestKey : cv_W "HandTablesModel" 88 "HandTablesModel" yM_bestKey bM_bestKey 4 (some .int) 0 := ⟨(gw_mem 533 rfl rfl), (gw_mem 535 rfl rfl), (gw_mem 16 rfl rfl), (gw_mem 28 rfl rfl), (gw_mem 536 rfl rfl), by decide +kernel⟩
set_option maxRecDepth 20000 in
theorem kM_M_below : cv_W "HandTablesModel" 91 "HandTablesModel" yM_below bM_below 5 (some .int) 1 := ⟨(gw_mem 541 rfl rfl), (gw_mem 543 rfl rfl), (gw_mem 18 rfl rfl), (gw_mem 28 rfl rfl), (gw_mem 544 rfl rfl), by decide +kernel⟩
set_option maxRecDepth 20000 in
theorem kM_M_stands : cv_W "HandTablesModel" 107 "HandTablesModel" yM_stands bM_stands 4 (some .boolean) 2 := ⟨(gw_mem 578 rfl rfl), (gw_mem 580 rfl rfl), (gw_mem 19 rfl rfl), (gw_mem 28 rfl rfl), (gw_mem 581 rfl rfl), by decide +kernel⟩
set_option maxRecDepth 20000 in
theorem kM_M_keyOfSeat : cv_W "HandTablesModel" 121 "HandTablesModel" yM_keyOfSeat bM_keyOfSeat 5 (some .int) 3 := ⟨(gw_mem 602 rfl rfl), (gw_mem 604 rfl rfl), (gw_mem 20 rfl rfl), (gw_mem 28 rfl rfl), (gw_mem 605 rfl rfl), by decide +kernel⟩
set_option maxRecDepth 20000 in
theorem kM_M_isEmpty : cv_W "HandTablesModel" 125 "HandTablesModel" yM_isEmpty bM_isEmpty 3 (some .boolean) 0 := ⟨(gw_mem 610 rfl rfl), (gw_mem 612 rfl rfl), (gw_mem 21 rfl rfl), (gw_mem 28 rfl rfl), (gw_mem 613 rfl rfl), by decide +kernel⟩
set_option maxRecDepth 20000 in
theorem kM_M_leaders : cv_W "HandTablesModel" 129 "HandTablesModel" yM_leaders bM_leaders 5 (some .int) 2 := ⟨(gw_mem 614 rfl rfl), (gw_mem 616 rfl rfl), (gw_mem 22 rfl rfl), (gw_mem 28 rfl rfl), (gw_mem 617 rfl rfl), by decide +kernel⟩
set_option maxRecDepth 20000 in
theorem kM_M_findLeft : cv_W "HandTablesModel" 139 "HandTablesModel" yM_findLeft bM_findLeft 2 none 0 := ⟨(gw_mem 622 rfl rfl), (gw_mem 624 rfl rfl), (gw_mem 23 rfl rfl), (gw_mem 28 rfl rfl), (gw_mem 625 rfl rfl), by decide +kernel⟩
set_option maxRecDepth 20000 in
theorem kM_M_countBoard : cv_W "HandTablesModel" 142 "HandTablesModel" yM_countBoard bM_countBoard 6 none 2 := ⟨(gw_mem 634 rfl rfl), (gw_mem 636 rfl rfl), (gw_mem 25 rfl rfl), (gw_mem 28 rfl rfl), (gw_mem 637 rfl rfl), by decide +kernel⟩
set_option maxRecDepth 20000 in
theorem kM_M_countAll : cv_W "HandTablesModel" 146 "HandTablesModel" yM_countAll bM_countAll 3 none 0 := ⟨(gw_mem 630 rfl rfl), (gw_mem 632 rfl rfl), (gw_mem 24 rfl rfl), (gw_mem 28 rfl rfl), (gw_mem 633 rfl rfl), by decide +kernel⟩
theorem k_srin {a j : Nat} (ha : a ≤ 12) (hj : j ≤ 4) (h : 0 ≤ nI a - nI j) : vp_in (nI a - nI j) 13 := by
  rw [vp_in_iff, pk_sub_toInt (by omega) (by omega)]
  rw [Int32.le_iff_toInt_le, pk_sub_toInt (by omega) (by omega)] at h
  have h : (0 : Int) ≤ (a : Int) - j := h
  omega
def k_sr (h k : Int32) : Int32 := if 0 ≤ h - k then h - k else 12
def ks_in (o : Nat → Int32) (h : Int32) : Nat → Int32 → Int32
  | 0, a => a
  | n + 1, a => ks_in o h n (if a = 0 then 0 else if o (k_sr h (nI (5 - (n + 1)))).toNatClampNeg = 1 then 1 else 0)
def ks_out (o : Nat → Int32) : Nat → Int32
  | 0 => -1
  | n + 1 => if ks_in o (nI (n + 1 + 2)) 5 1 = 0 then ks_out o n else nI (n + 1 + 2)
/-- the high rank of the straight, -1 where there is none; o: how often each rank comes -/
def k_str (o : Nat → Int32) : Int32 := ks_out o 10
def kw_lp (o : Nat → Int32) (t : Int32) : Nat → Int32 → Int32
  | 0, a => a
  | n + 1, a => kw_lp o t n (if o (nI (13 - (n + 1))).toNatClampNeg = t then a + 1 else a)
def k_with (o : Nat → Int32) (t : Int32) : Int32 := kw_lp o t 13 0
def kz_lp : Nat → (Nat → Int32) → Nat → Int32
  | 0, f => f
  | n + 1, f => kz_lp n (upd f (nI (13 - (n + 1))).toNatClampNeg 0)
def kc_lp (r : Nat → Int32) : Nat → (Nat → Int32) → Nat → Int32
  | 0, f => f
  | n + 1, f => kc_lp r n (upd f (r (nI (5 - (n + 1))).toNatClampNeg).toNatClampNeg (f (r (nI (5 - (n + 1))).toNatClampNeg).toNatClampNeg + 1))
def k_cat (o : Nat → Int32) (h u : Int32) : Int32 := if h < 0 then (if k_with o 4 = 1 then 7 else if k_with o 3 = 1 then (if k_with o 2 = 1 then 6 else 3) else if u = 0 then k_with o 2 else 5) else if u = 0 then 4 else 8
def kr_in (o : Nat → Int32) (t : Int32) : Nat → Int32 → Int32 → Int32 × Int32
  | 0, a, b => (a, b)
  | n + 1, a, b => if o (nI n).toNatClampNeg = t then kr_in o t n (a + nI n * b) (b / 13) else kr_in o t n a b
def kr_out (o : Nat → Int32) : Nat → Int32 → Int32 → Int32 × Int32
  | 0, a, b => (a, b)
  | n + 1, a, b => kr_out o n (kr_in o (nI (n + 1)) 13 a b).1 (kr_in o (nI (n + 1)) 13 a b).2
def k_row (o : Nat → Int32) : Int32 := (kr_out o 4 0 28561).1
def k_key (o : Nat → Int32) (u : Int32) : Int32 := if k_str o < 0 then k_cat o (k_str o) u * 371293 + k_row o else k_cat o (k_str o) u * 371293 + k_str o * 28561
def k_oc (r : Nat → Int32) : Nat → Int32 := kc_lp r 5 (fun _ => 0)
def kb_lp (f : Nat → Int32) (k : Int32) : Nat → Nat → Nat → Nat
  | 0, a, _ => a
  | n + 1, a, c => if nI c ≤ nI a then a else if k ≤ f (nI ((a + c) / 2)).toNatClampNeg then kb_lp f k n a ((a + c) / 2) else kb_lp f k n ((a + c) / 2 + 1) c
def k_below (f : Nat → Int32) (k : Int32) : Int32 := nI (kb_lp f k 7462 0 7462)
theorem kb_mid {a c : Nat} (ha : a ≤ 7462) (hc : c ≤ 7462) : (nI a + nI c) / 2 = nI ((a + c) / 2) := by
  rw [nI_add]
  exact pk_div (d := 2) (by omega) (by omega) (by omega)
theorem kb_lt {a c : Nat} (h : ¬ nI c ≤ nI a) (ha : a ≤ 7462) : a < c := Nat.lt_of_not_le (fun z => h (nI_le z (by omega)))
def kh_lp (x : Int64) : Nat → Int32 → Int32
  | 0, a => a
  | n + 1, a => kh_lp x n (a + (jr x (nI (64 - (n + 1))) &&& 1).toInt32)
def k_isHand (x : Int64) : Int32 := if jr x 52 = 0 then (if kh_lp x 64 0 < 5 then 0 else if 7 < kh_lp x 64 0 then 0 else 1) else 0
def kt_lp (x : Int64) : Nat → Int32 → (Nat → Int32) → Int32 × (Nat → Int32)
  | 0, z, f => (z, f)
  | n + 1, z, f => if jr x (nI (52 - (n + 1))) &&& 1 = 1 then kt_lp x n (z + 1) (upd f z.toNatClampNeg (nI (52 - (n + 1)))) else kt_lp x n z f
def kt_c (x : Int64) : Nat → Nat
  | 0 => 0
  | n + 1 => (if jr x (nI (52 - (n + 1))) &&& 1 = 1 then 1 else 0) + kt_c x n
def k_take (x : Int64) (f : Nat → Int32) : Int32 × (Nat → Int32) := kt_lp x 52 0 f
set_option maxHeartbeats 4000000 in
set_option maxRecDepth 100000 in
theorem cM_isHand (l : Launch) (x : Int64)  : pu_M l yM_isHand bM_isHand 4 (some .boolean) 0 [.long x] (fun _ => True) (.int (k_isHand x)) := by
  refine Met.ofW (cc := bM_isHand) (maxL := 4) (ret := (some .boolean)) (by decide) rfl ?_
  intro p e s m args below meth c s₁ BB hml hv
  obtain ⟨rfl, hB⟩ := hv
  have hx := BB.exec
  have hb := BB.bytes
  have hr := BB.returns
  have hlk := BB.notSynchronized
  have hts := atoms_spec (ws := wd yM_isHand bM_isHand 4 (some .boolean)) BB.pre
  have hown : s.vm.findClass "HandTablesModel" = some m.cls := findClass_of_methodNamed BB.named
  have hS : CallFix p m c bM_isHand 4 s _ (wd yM_isHand bM_isHand 4 (some .boolean)) "HandTablesModel" := ⟨hx, hb, hml, hown, hts⟩
  have hl := lv_entry ([.long x]) (n := 4) (Nat.le_of_ble_eq_true rfl)
  rw [lg_entry_eq]
  generalize (lg_sl ([.long x]) ++ List.replicate (4 - (lg_sl ([.long x])).length) Slot.unset).toArray = ls at hl ⊢
  have hl : lv_has ls 4 [(0, .long x)] := hl
  refine lv_iconst (v := 0) hx hb dM_isHand_0 (by decide) ?_
  refine jt_topi (fun x1 ex1 => ?_)
  refine lv_istore_n (lv' := [(2, .int x1), (0, .long x)]) hx hb dM_isHand_1 rfl hl (by decide) rfl (fun ls hl => ?_)
  refine lv_iconst (v := 0) hx hb dM_isHand_2 (by decide) ?_
  refine jt_topi (fun x2 ex2 => ?_)
  refine lv_istore_n (lv' := [(3, .int x2), (2, .int x1), (0, .long x)]) hx hb dM_isHand_3 rfl hl (by decide) rfl (fun ls hl => ?_)
  have hloop : ∀ (n : Nat) (a : Int32) (ls : Array Slot), lv_has ls 4 [(3, .int (nI (64 - n))), (2, .int a), (0, .long x)] → (n ≤ 64) → (∀ ls : Array Slot, lv_has ls 4 [(2, .int (kh_lp x n a)), (0, .long x)] → W p l e (headSpec (wd yM_isHand bM_isHand 4 (some .boolean)) (rmD 0 0 0)).room s m ([.long x]).toArray below meth c s.heap [] 0 0 (MQ below (pu_Q (.int (k_isHand x))) ([.long x]).toArray s 0 0 (fun _ => False)) (F0 m 25 ls [])) → W p l e (headSpec (wd yM_isHand bM_isHand 4 (some .boolean)) (rmD 0 0 0)).room s m ([.long x]).toArray below meth c s.heap [] 0 0 (MQ below (pu_Q (.int (k_isHand x))) ([.long x]).toArray s 0 0 (fun _ => False)) (F0 m 4 ls []) := by
    intro n
    induction n with
    | zero =>
      intro a ls hl hn K
      refine lv_iload_n hx hb dM_isHand_4 rfl (lv_at hl 0 rfl) ?_
      refine lv_bipush (v := 64) hx hb dM_isHand_5 (by decide) ?_
      refine lv_icmp_ge (tgt := 25) hx hb dM_isHand_7 (by decide) (fun hc3 => ?_) (fun hc3 => ?_)
      · simp only [kh_lp] at K
        exact K _ (lv_sub hl [1, 2] rfl)
      · exact absurd (by decide) hc3
    | succ n ih =>
      intro a ls hl hn K
      refine lv_iload_n hx hb dM_isHand_4 rfl (lv_at hl 0 rfl) ?_
      refine lv_bipush (v := 64) hx hb dM_isHand_5 (by decide) ?_
      refine lv_icmp_ge (tgt := 25) hx hb dM_isHand_7 (by decide) (fun hc4 => ?_) (fun hc4 => ?_)
      · exact absurd hc4 (nI_ge (b := 64) (by omega) (by decide))
      · refine lv_iload_n hx hb dM_isHand_10 rfl (lv_at hl 1 rfl) ?_
        refine lv_lload_n hx hb dM_isHand_11 rfl (lv_at hl 2 rfl) ?_
        refine lv_iload_n hx hb dM_isHand_12 rfl (lv_at hl 0 rfl) ?_
        refine jv_lshr hx hb dM_isHand_13 ?_
        refine lv_lconst (v := 1) hx hb dM_isHand_14 (by decide) ?_
        refine lv_land hx hb dM_isHand_15 ?_
        refine jv_l2i hx hb dM_isHand_16 ?_
        refine lv_iadd hx hb dM_isHand_17 ?_
        refine jt_topi (fun x5 ex5 => ?_)
        refine lv_istore_n (lv' := [(2, .int x5), (3, .int (nI (64 - (n + 1)))), (0, .long x)]) hx hb dM_isHand_18 rfl hl (by decide) rfl (fun ls hl => ?_)
        refine jv_iinc (a := 1) hx hb dM_isHand_19 hl (k := 1) rfl (by decide) (by decide) (fun x6 ex6 ls hl => ?_)
        have hl : lv_has ls 4 [(3, .int x6), (2, .int x5), (0, .long x)] := hl
        refine lv_goto (tgt := 4) hx hb dM_isHand_22 (by decide) ?_
        rw [nI_up (by omega)] at ex6
        subst ex6 ex5
        simp only [kh_lp] at K
        exact ih _ ls (lv_sub hl [0, 1, 2] rfl) (by omega) K
  refine hloop 64 x1 ls (by have h9 := lv_sub hl [0, 1, 2] rfl; subst ex2; exact h9) (by decide) (fun ls hl => ?_)
  clear hloop
  obtain ⟨y7, ey7⟩ : ∃ z, (kh_lp x 64 x1) = z := ⟨_, rfl⟩
  rw [ey7] at hl
  refine lv_lload_n hx hb dM_isHand_25 rfl (lv_at hl 1 rfl) ?_
  refine lv_bipush (v := 52) hx hb dM_isHand_26 (by decide) ?_
  refine jv_lshr hx hb dM_isHand_28 ?_
  refine lv_lconst (v := 0) hx hb dM_isHand_29 (by decide) ?_
  refine jv_lcne (tgt := 49) hx hb dM_isHand_30 dM_isHand_31 (by decide) (fun hc8 => ?_) (fun hc8 => ?_)
  · refine lv_iconst (v := 0) hx hb dM_isHand_49 (by decide) ?_
    exact pu_zret hx hb hr hlk dM_isHand_50 (by decide) (by subst ey7 ex2 ex1; first | contradiction | ((try simp only [k_isHand, if_neg hc8]) <;> rfl))
  · refine lv_iload_n hx hb dM_isHand_34 rfl (lv_at hl 0 rfl) ?_
    refine lv_iconst (v := 5) hx hb dM_isHand_35 (by decide) ?_
    refine lv_icmp_lt (tgt := 49) hx hb dM_isHand_36 (by decide) (fun hc9 => ?_) (fun hc9 => ?_)
    · refine lv_iconst (v := 0) hx hb dM_isHand_49 (by decide) ?_
      exact pu_zret hx hb hr hlk dM_isHand_50 (by decide) (by subst ey7 ex2 ex1; first | contradiction | ((try simp only [k_isHand, if_pos hc8, if_pos hc9]) <;> rfl))
    · refine lv_iload_n hx hb dM_isHand_39 rfl (lv_at hl 0 rfl) ?_
      refine lv_bipush (v := 7) hx hb dM_isHand_40 (by decide) ?_
      refine lv_icmp_gt (tgt := 49) hx hb dM_isHand_42 (by decide) (fun hc10 => ?_) (fun hc10 => ?_)
      · refine lv_iconst (v := 0) hx hb dM_isHand_49 (by decide) ?_
        exact pu_zret hx hb hr hlk dM_isHand_50 (by decide) (by subst ey7 ex2 ex1; first | contradiction | ((try simp only [k_isHand, if_pos hc8, if_neg hc9, if_pos hc10]) <;> rfl))
      · refine lv_iconst (v := 1) hx hb dM_isHand_45 (by decide) ?_
        refine lv_goto (tgt := 50) hx hb dM_isHand_46 (by decide) ?_
        exact pu_zret hx hb hr hlk dM_isHand_50 (by decide) (by subst ey7 ex2 ex1; first | contradiction | ((try simp only [k_isHand, if_pos hc8, if_neg hc9, if_neg hc10]) <;> rfl))
set_option maxHeartbeats 4000000 in
set_option maxRecDepth 100000 in
theorem cM_thrown (l : Launch) (g : mo_E) (th : Int32) (ks : Nat → Int32) (kc : Int32) (rn : Nat → Int32) (oc : Nat → Int32) (hd : Nat → Int32) (hs : Int32) (se : Nat → Int32) (bd : Nat → Int32) (bs : Int32) (dk : Nat → Int32) (dp : Int32) (ct : Int32) (bo : Int32) (wi : Nat → Int32) (sh : Nat → Int32) (lf : Nat → Int32) (lc : Int32) (mo : Int32) (ah : Int32)   (hap : mo_ap g)  : mm_M l yM_thrown bM_thrown 1 (some .int) 0 [.ref (g.2.2 0)] g (th, ks, kc, rn, oc, hd, hs, se, bd, bs, dk, dp, ct, bo, wi, sh, lf, lc, mo, ah) (fun v9 S9 => v9 = some (.int th) ∧ S9 = (th, ks, kc, rn, oc, hd, hs, se, bd, bs, dk, dp, ct, bo, wi, sh, lf, lc, mo, ah)) := by
  refine Met.ofW (cc := bM_thrown) (maxL := 1) (ret := (some .int)) (by decide) rfl ?_
  intro p e s m args below meth c s₁ BB hml hv
  obtain ⟨rfl, hB⟩ := hv
  have hx := BB.exec
  have hb := BB.bytes
  have hr := BB.returns
  have hlk := BB.notSynchronized
  have hts := atoms_spec (ws := wd yM_thrown bM_thrown 1 (some .int)) BB.pre
  have hown : s.vm.findClass "HandTablesModel" = some m.cls := findClass_of_methodNamed BB.named
  have hS : CallFix p m c bM_thrown 1 s _ (wd yM_thrown bM_thrown 1 (some .int)) "HandTablesModel" := ⟨hx, hb, hml, hown, hts⟩
  obtain ⟨hP, hK⟩ := hB
  have hP : va_P g.1 cl_X (mo_V g th ks kc rn oc hd hs se bd bs dk dp ct bo wi sh lf lc mo ah) s.heap := hP
  have hSS : va_S (mo_fr g) s.heap s.heap [] := va_S.rf
  have hl := lv_entry ([.ref (g.2.2 0)]) (n := 1) (Nat.le_of_ble_eq_true rfl)
  rw [lg_entry_eq]
  generalize (lg_sl ([.ref (g.2.2 0)]) ++ List.replicate (1 - (lg_sl ([.ref (g.2.2 0)])).length) Slot.unset).toArray = ls at hl ⊢
  have hl : lv_has ls 1 [(0, .ref (g.2.2 0))] := hl
  obtain ⟨H, eH⟩ : ∃ H, s.heap = H := ⟨_, rfl⟩
  obtain ⟨locs, eL⟩ : ∃ L, ([] : List Loc) = L := ⟨_, rfl⟩
  have hP : va_P g.1 cl_X (mo_V g th ks kc rn oc hd hs se bd bs dk dp ct bo wi sh lf lc mo ah) H := by rw [← eH]; exact hP
  have hSS : va_S (mo_fr g) s.heap H locs := by rw [← eH, ← eL]; exact hSS
  refine mm_go eH eL ?_
  clear eH eL
  refine lv_aload_n hx hb dM_thrown_0 rfl (lv_at hl 0 rfl) ?_
  refine va_get (D := g.1) (ci := 1) (v := .int th) (C := "HandTablesModel") (T := T_M) (N := 20) hx hb hts (fun w hw => wd_in (u_inM w hw)) hown hK hP 0 rfl rfl 0 (by decide) (hts _ (wd_in (gw_mem 457 rfl rfl))) (fun _ h => h) rfl dM_thrown_1 ?_
  exact mm_iret (S := (th, ks, kc, rn, oc, hd, hs, se, bd, bs, dk, dp, ct, bo, wi, sh, lf, lc, mo, ah)) hx hb hr hlk dM_thrown_4 hP hSS (by exact ⟨by (try simp only []) <;> rfl, by (try simp only []) <;> rfl⟩)
set_option maxHeartbeats 4000000 in
set_option maxRecDepth 100000 in
theorem cM_setRanks (l : Launch) (g : mo_E) (th : Int32) (ks : Nat → Int32) (kc : Int32) (rn : Nat → Int32) (oc : Nat → Int32) (hd : Nat → Int32) (hs : Int32) (se : Nat → Int32) (bd : Nat → Int32) (bs : Int32) (dk : Nat → Int32) (dp : Int32) (ct : Int32) (bo : Int32) (wi : Nat → Int32) (sh : Nat → Int32) (lf : Nat → Int32) (lc : Int32) (mo : Int32) (ah : Int32) (k1 : Int32) (k2 : Int32) (k3 : Int32) (k4 : Int32) (k5 : Int32)  (hap : mo_ap g)  : mm_M l yM_setRanks bM_setRanks 6 none 0 [.ref (g.2.2 0), .int k1, .int k2, .int k3, .int k4, .int k5] g (th, ks, kc, rn, oc, hd, hs, se, bd, bs, dk, dp, ct, bo, wi, sh, lf, lc, mo, ah) (fun v9 S9 => v9 = none ∧ S9 = (th, ks, kc, (upd (upd (upd (upd (upd rn (0 : Int32).toNatClampNeg k1) (1 : Int32).toNatClampNeg k2) (2 : Int32).toNatClampNeg k3) (3 : Int32).toNatClampNeg k4) (4 : Int32).toNatClampNeg k5), oc, hd, hs, se, bd, bs, dk, dp, ct, bo, wi, sh, lf, lc, mo, ah)) := by
  refine Met.ofW (cc := bM_setRanks) (maxL := 6) (ret := none) (by decide) rfl ?_
  intro p e s m args below meth c s₁ BB hml hv
  obtain ⟨rfl, hB⟩ := hv
  have hx := BB.exec
  have hb := BB.bytes
  have hr := BB.returns
  have hlk := BB.notSynchronized
  have hts := atoms_spec (ws := wd yM_setRanks bM_setRanks 6 none) BB.pre
  have hown : s.vm.findClass "HandTablesModel" = some m.cls := findClass_of_methodNamed BB.named
  have hS : CallFix p m c bM_setRanks 6 s _ (wd yM_setRanks bM_setRanks 6 none) "HandTablesModel" := ⟨hx, hb, hml, hown, hts⟩
  obtain ⟨hP, hK⟩ := hB
  have hP : va_P g.1 cl_X (mo_V g th ks kc rn oc hd hs se bd bs dk dp ct bo wi sh lf lc mo ah) s.heap := hP
  have hSS : va_S (mo_fr g) s.heap s.heap [] := va_S.rf
  have hl := lv_entry ([.ref (g.2.2 0), .int k1, .int k2, .int k3, .int k4, .int k5]) (n := 6) (Nat.le_of_ble_eq_true rfl)
  rw [lg_entry_eq]
  generalize (lg_sl ([.ref (g.2.2 0), .int k1, .int k2, .int k3, .int k4, .int k5]) ++ List.replicate (6 - (lg_sl ([.ref (g.2.2 0), .int k1, .int k2, .int k3, .int k4, .int k5])).length) Slot.unset).toArray = ls at hl ⊢
  have hl : lv_has ls 6 [(0, .ref (g.2.2 0)), (1, .int k1), (2, .int k2), (3, .int k3), (4, .int k4), (5, .int k5)] := hl
  obtain ⟨H, eH⟩ : ∃ H, s.heap = H := ⟨_, rfl⟩
  obtain ⟨locs, eL⟩ : ∃ L, ([] : List Loc) = L := ⟨_, rfl⟩
  have hP : va_P g.1 cl_X (mo_V g th ks kc rn oc hd hs se bd bs dk dp ct bo wi sh lf lc mo ah) H := by rw [← eH]; exact hP
  have hSS : va_S (mo_fr g) s.heap H locs := by rw [← eH, ← eL]; exact hSS
  refine mm_go eH eL ?_
  clear eH eL
  refine lv_aload_n hx hb dM_setRanks_0 rfl (lv_at hl 0 rfl) ?_
  refine va_get (D := g.1) (ci := 1) (v := .ref (g.2.2 2)) (C := "HandTablesModel") (T := T_M) (N := 20) hx hb hts (fun w hw => wd_in (u_inM w hw)) hown hK hP 0 rfl rfl 3 (by decide) (hts _ (wd_in (gw_mem 460 rfl rfl))) (fun _ h => h) rfl dM_setRanks_1 ?_
  refine lv_iconst (v := 0) hx hb dM_setRanks_4 (by decide) ?_
  refine lv_iload_n hx hb dM_setRanks_5 rfl (lv_at hl 1 rfl) ?_
  refine va_iast (x := k1) hx hb hK hP (mo_D hap) hSS 2 0 rfl rfl (by unfold vp_in; decide) dM_setRanks_6 (fun H locs hP _ hSS => ?_)
  have hP : va_P g.1 cl_X (mo_V g th ks kc (upd rn (0 : Int32).toNatClampNeg k1) oc hd hs se bd bs dk dp ct bo wi sh lf lc mo ah) H := hP
  refine lv_aload_n hx hb dM_setRanks_7 rfl (lv_at hl 0 rfl) ?_
  refine va_get (D := g.1) (ci := 1) (v := .ref (g.2.2 2)) (C := "HandTablesModel") (T := T_M) (N := 20) hx hb hts (fun w hw => wd_in (u_inM w hw)) hown hK hP 0 rfl rfl 3 (by decide) (hts _ (wd_in (gw_mem 460 rfl rfl))) (fun _ h => h) rfl dM_setRanks_8 ?_
  refine lv_iconst (v := 1) hx hb dM_setRanks_11 (by decide) ?_
  refine lv_iload_n hx hb dM_setRanks_12 rfl (lv_at hl 2 rfl) ?_
  refine va_iast (x := k2) hx hb hK hP (mo_D hap) hSS 2 0 rfl rfl (by unfold vp_in; decide) dM_setRanks_13 (fun H locs hP _ hSS => ?_)
  have hP : va_P g.1 cl_X (mo_V g th ks kc (upd (upd rn (0 : Int32).toNatClampNeg k1) (1 : Int32).toNatClampNeg k2) oc hd hs se bd bs dk dp ct bo wi sh lf lc mo ah) H := hP
  refine lv_aload_n hx hb dM_setRanks_14 rfl (lv_at hl 0 rfl) ?_
  refine va_get (D := g.1) (ci := 1) (v := .ref (g.2.2 2)) (C := "HandTablesModel") (T := T_M) (N := 20) hx hb hts (fun w hw => wd_in (u_inM w hw)) hown hK hP 0 rfl rfl 3 (by decide) (hts _ (wd_in (gw_mem 460 rfl rfl))) (fun _ h => h) rfl dM_setRanks_15 ?_
  refine lv_iconst (v := 2) hx hb dM_setRanks_18 (by decide) ?_
  refine lv_iload_n hx hb dM_setRanks_19 rfl (lv_at hl 3 rfl) ?_
  refine va_iast (x := k3) hx hb hK hP (mo_D hap) hSS 2 0 rfl rfl (by unfold vp_in; decide) dM_setRanks_20 (fun H locs hP _ hSS => ?_)
  have hP : va_P g.1 cl_X (mo_V g th ks kc (upd (upd (upd rn (0 : Int32).toNatClampNeg k1) (1 : Int32).toNatClampNeg k2) (2 : Int32).toNatClampNeg k3) oc hd hs se bd bs dk dp ct bo wi sh lf lc mo ah) H := hP
  refine lv_aload_n hx hb dM_setRanks_21 rfl (lv_at hl 0 rfl) ?_
  refine va_get (D := g.1) (ci := 1) (v := .ref (g.2.2 2)) (C := "HandTablesModel") (T := T_M) (N := 20) hx hb hts (fun w hw => wd_in (u_inM w hw)) hown hK hP 0 rfl rfl 3 (by decide) (hts _ (wd_in (gw_mem 460 rfl rfl))) (fun _ h => h) rfl dM_setRanks_22 ?_
  refine lv_iconst (v := 3) hx hb dM_setRanks_25 (by decide) ?_
  refine lv_iload hx hb dM_setRanks_26 (lv_at hl 4 rfl) ?_
  refine va_iast (x := k4) hx hb hK hP (mo_D hap) hSS 2 0 rfl rfl (by unfold vp_in; decide) dM_setRanks_28 (fun H locs hP _ hSS => ?_)
  have hP : va_P g.1 cl_X (mo_V g th ks kc (upd (upd (upd (upd rn (0 : Int32).toNatClampNeg k1) (1 : Int32).toNatClampNeg k2) (2 : Int32).toNatClampNeg k3) (3 : Int32).toNatClampNeg k4) oc hd hs se bd bs dk dp ct bo wi sh lf lc mo ah) H := hP
  refine lv_aload_n hx hb dM_setRanks_29 rfl (lv_at hl 0 rfl) ?_
  refine va_get (D := g.1) (ci := 1) (v := .ref (g.2.2 2)) (C := "HandTablesModel") (T := T_M) (N := 20) hx hb hts (fun w hw => wd_in (u_inM w hw)) hown hK hP 0 rfl rfl 3 (by decide) (hts _ (wd_in (gw_mem 460 rfl rfl))) (fun _ h => h) rfl dM_setRanks_30 ?_
  refine lv_iconst (v := 4) hx hb dM_setRanks_33 (by decide) ?_
  refine lv_iload hx hb dM_setRanks_34 (lv_at hl 5 rfl) ?_
  refine va_iast (x := k5) hx hb hK hP (mo_D hap) hSS 2 0 rfl rfl (by unfold vp_in; decide) dM_setRanks_36 (fun H locs hP _ hSS => ?_)
  have hP : va_P g.1 cl_X (mo_V g th ks kc (upd (upd (upd (upd (upd rn (0 : Int32).toNatClampNeg k1) (1 : Int32).toNatClampNeg k2) (2 : Int32).toNatClampNeg k3) (3 : Int32).toNatClampNeg k4) (4 : Int32).toNatClampNeg k5) oc hd hs se bd bs dk dp ct bo wi sh lf lc mo ah) H := hP
  exact mm_vret (S := (th, ks, kc, (upd (upd (upd (upd (upd rn (0 : Int32).toNatClampNeg k1) (1 : Int32).toNatClampNeg k2) (2 : Int32).toNatClampNeg k3) (3 : Int32).toNatClampNeg k4) (4 : Int32).toNatClampNeg k5), oc, hd, hs, se, bd, bs, dk, dp, ct, bo, wi, sh, lf, lc, mo, ah)) hx hb hr hlk dM_setRanks_37 hP hSS (by exact ⟨by (try simp only []) <;> rfl, by (try simp only []) <;> rfl⟩)
set_option maxHeartbeats 4000000 in
set_option maxRecDepth 100000 in
theorem cM_addKey (l : Launch) (g : mo_E) (th : Int32) (ks : Nat → Int32) (kc : Int32) (rn : Nat → Int32) (oc : Nat → Int32) (hd : Nat → Int32) (hs : Int32) (se : Nat → Int32) (bd : Nat → Int32) (bs : Int32) (dk : Nat → Int32) (dp : Int32) (ct : Int32) (bo : Int32) (wi : Nat → Int32) (sh : Nat → Int32) (lf : Nat → Int32) (lc : Int32) (mo : Int32) (ah : Int32) (k : Int32)  (hap : mo_ap g) (hkc : vp_in kc 7462) : mm_M l yM_addKey bM_addKey 2 none 0 [.ref (g.2.2 0), .int k] g (th, ks, kc, rn, oc, hd, hs, se, bd, bs, dk, dp, ct, bo, wi, sh, lf, lc, mo, ah) (fun v9 S9 => v9 = none ∧ S9 = (th, (upd ks (kc : Int32).toNatClampNeg k), (kc + 1), rn, oc, hd, hs, se, bd, bs, dk, dp, ct, bo, wi, sh, lf, lc, mo, ah)) := by
  refine Met.ofW (cc := bM_addKey) (maxL := 2) (ret := none) (by decide) rfl ?_
  intro p e s m args below meth c s₁ BB hml hv
  obtain ⟨rfl, hB⟩ := hv
  have hx := BB.exec
  have hb := BB.bytes
  have hr := BB.returns
  have hlk := BB.notSynchronized
  have hts := atoms_spec (ws := wd yM_addKey bM_addKey 2 none) BB.pre
  have hown : s.vm.findClass "HandTablesModel" = some m.cls := findClass_of_methodNamed BB.named
  have hS : CallFix p m c bM_addKey 2 s _ (wd yM_addKey bM_addKey 2 none) "HandTablesModel" := ⟨hx, hb, hml, hown, hts⟩
  obtain ⟨hP, hK⟩ := hB
  have hP : va_P g.1 cl_X (mo_V g th ks kc rn oc hd hs se bd bs dk dp ct bo wi sh lf lc mo ah) s.heap := hP
  have hSS : va_S (mo_fr g) s.heap s.heap [] := va_S.rf
  have hl := lv_entry ([.ref (g.2.2 0), .int k]) (n := 2) (Nat.le_of_ble_eq_true rfl)
  rw [lg_entry_eq]
  generalize (lg_sl ([.ref (g.2.2 0), .int k]) ++ List.replicate (2 - (lg_sl ([.ref (g.2.2 0), .int k])).length) Slot.unset).toArray = ls at hl ⊢
  have hl : lv_has ls 2 [(0, .ref (g.2.2 0)), (1, .int k)] := hl
  obtain ⟨H, eH⟩ : ∃ H, s.heap = H := ⟨_, rfl⟩
  obtain ⟨locs, eL⟩ : ∃ L, ([] : List Loc) = L := ⟨_, rfl⟩
  have hP : va_P g.1 cl_X (mo_V g th ks kc rn oc hd hs se bd bs dk dp ct bo wi sh lf lc mo ah) H := by rw [← eH]; exact hP
  have hSS : va_S (mo_fr g) s.heap H locs := by rw [← eH, ← eL]; exact hSS
  refine mm_go eH eL ?_
  clear eH eL
  refine lv_aload_n hx hb dM_addKey_0 rfl (lv_at hl 0 rfl) ?_
  refine va_get (D := g.1) (ci := 1) (v := .ref (g.2.2 1)) (C := "HandTablesModel") (T := T_M) (N := 20) hx hb hts (fun w hw => wd_in (u_inM w hw)) hown hK hP 0 rfl rfl 1 (by decide) (hts _ (wd_in (gw_mem 458 rfl rfl))) (fun _ h => h) rfl dM_addKey_1 ?_
  refine lv_aload_n hx hb dM_addKey_4 rfl (lv_at hl 0 rfl) ?_
  refine va_get (D := g.1) (ci := 1) (v := .int kc) (C := "HandTablesModel") (T := T_M) (N := 20) hx hb hts (fun w hw => wd_in (u_inM w hw)) hown hK hP 0 rfl rfl 2 (by decide) (hts _ (wd_in (gw_mem 459 rfl rfl))) (fun _ h => h) rfl dM_addKey_5 ?_
  refine lv_iload_n hx hb dM_addKey_8 rfl (lv_at hl 1 rfl) ?_
  refine va_iast (x := k) hx hb hK hP (mo_D hap) hSS 1 0 rfl rfl hkc dM_addKey_9 (fun H locs hP _ hSS => ?_)
  have hP : va_P g.1 cl_X (mo_V g th (upd ks (kc : Int32).toNatClampNeg k) kc rn oc hd hs se bd bs dk dp ct bo wi sh lf lc mo ah) H := hP
  refine lv_aload_n hx hb dM_addKey_10 rfl (lv_at hl 0 rfl) ?_
  refine lv_dup hx hb dM_addKey_11 rfl ?_
  refine va_get (D := g.1) (ci := 1) (v := .int kc) (C := "HandTablesModel") (T := T_M) (N := 20) hx hb hts (fun w hw => wd_in (u_inM w hw)) hown hK hP 0 rfl rfl 2 (by decide) (hts _ (wd_in (gw_mem 459 rfl rfl))) (fun _ h => h) rfl dM_addKey_12 ?_
  refine lv_iconst (v := 1) hx hb dM_addKey_15 (by decide) ?_
  refine lv_iadd hx hb dM_addKey_16 ?_
  refine va_put (D := g.1) (ci := 1) (v := .int (kc + 1)) (ty := .int) (C := "HandTablesModel") (T := T_M) (N := 20) hx hb hts (fun w hw => wd_in (u_inM w hw)) tf_M tf_M_ok n_M hown hK hP (mo_D hap) hSS 0 rfl rfl 2 (by decide) (hts _ (wd_in (gw_mem 459 rfl rfl))) (fun _ h => h) rfl (by decide +kernel) rfl rfl (Nat.le_of_ble_eq_true rfl) dM_addKey_17 (fun H locs hP _ hSS => ?_)
  have hP : va_P g.1 cl_X (mo_V g th (upd ks (kc : Int32).toNatClampNeg k) (kc + 1) rn oc hd hs se bd bs dk dp ct bo wi sh lf lc mo ah) H := hP
  exact mm_vret (S := (th, (upd ks (kc : Int32).toNatClampNeg k), (kc + 1), rn, oc, hd, hs, se, bd, bs, dk, dp, ct, bo, wi, sh, lf, lc, mo, ah)) hx hb hr hlk dM_addKey_20 hP hSS (by exact ⟨by (try simp only []) <;> rfl, by (try simp only []) <;> rfl⟩)
set_option maxHeartbeats 4000000 in
set_option maxRecDepth 100000 in
theorem cM_straight (l : Launch) (g : mo_E) (th : Int32) (ks : Nat → Int32) (kc : Int32) (rn : Nat → Int32) (oc : Nat → Int32) (hd : Nat → Int32) (hs : Int32) (se : Nat → Int32) (bd : Nat → Int32) (bs : Int32) (dk : Nat → Int32) (dp : Int32) (ct : Int32) (bo : Int32) (wi : Nat → Int32) (sh : Nat → Int32) (lf : Nat → Int32) (lc : Int32) (mo : Int32) (ah : Int32)   (hap : mo_ap g)  : mm_M l yM_straight bM_straight 5 (some .int) 0 [.ref (g.2.2 0)] g (th, ks, kc, rn, oc, hd, hs, se, bd, bs, dk, dp, ct, bo, wi, sh, lf, lc, mo, ah) (fun v9 S9 => v9 = some (.int (k_str oc)) ∧ S9 = (th, ks, kc, rn, oc, hd, hs, se, bd, bs, dk, dp, ct, bo, wi, sh, lf, lc, mo, ah)) := by
  refine Met.ofW (cc := bM_straight) (maxL := 5) (ret := (some .int)) (by decide) rfl ?_
  intro p e s m args below meth c s₁ BB hml hv
  obtain ⟨rfl, hB⟩ := hv
  have hx := BB.exec
  have hb := BB.bytes
  have hr := BB.returns
  have hlk := BB.notSynchronized
  have hts := atoms_spec (ws := wd yM_straight bM_straight 5 (some .int)) BB.pre
  have hown : s.vm.findClass "HandTablesModel" = some m.cls := findClass_of_methodNamed BB.named
  have hS : CallFix p m c bM_straight 5 s _ (wd yM_straight bM_straight 5 (some .int)) "HandTablesModel" := ⟨hx, hb, hml, hown, hts⟩
  obtain ⟨hP, hK⟩ := hB
  have hP : va_P g.1 cl_X (mo_V g th ks kc rn oc hd hs se bd bs dk dp ct bo wi sh lf lc mo ah) s.heap := hP
  have hSS : va_S (mo_fr g) s.heap s.heap [] := va_S.rf
  have hl := lv_entry ([.ref (g.2.2 0)]) (n := 5) (Nat.le_of_ble_eq_true rfl)
  rw [lg_entry_eq]
  generalize (lg_sl ([.ref (g.2.2 0)]) ++ List.replicate (5 - (lg_sl ([.ref (g.2.2 0)])).length) Slot.unset).toArray = ls at hl ⊢
  have hl : lv_has ls 5 [(0, .ref (g.2.2 0))] := hl
  obtain ⟨H, eH⟩ : ∃ H, s.heap = H := ⟨_, rfl⟩
  obtain ⟨locs, eL⟩ : ∃ L, ([] : List Loc) = L := ⟨_, rfl⟩
  have hP : va_P g.1 cl_X (mo_V g th ks kc rn oc hd hs se bd bs dk dp ct bo wi sh lf lc mo ah) H := by rw [← eH]; exact hP
  have hSS : va_S (mo_fr g) s.heap H locs := by rw [← eH, ← eL]; exact hSS
  refine mm_go eH eL ?_
  clear eH eL
  refine lv_bipush (v := 12) hx hb dM_straight_0 (by decide) ?_
  refine jt_topi (fun x1 ex1 => ?_)
  refine lv_istore_n (lv' := [(1, .int x1), (0, .ref (g.2.2 0))]) hx hb dM_straight_2 rfl hl (by decide) rfl (fun ls hl => ?_)
  have hloop : ∀ (n : Nat)    (H : Heap) (locs : List Loc) (ls : Array Slot), lv_has ls 5 [(1, .int (nI (n + 2))), (0, .ref (g.2.2 0))] → va_P g.1 cl_X (mo_V g th ks kc rn oc hd hs se bd bs dk dp ct bo wi sh lf lc mo ah) H → va_S (mo_fr g) s.heap H locs → (n ≤ 10) → (k_str oc = ks_out oc n) → W p l e (headSpec (wd yM_straight bM_straight 5 (some .int)) (rmD 0 0 0)).room s m ([.ref (g.2.2 0)]).toArray below meth c H locs 0 0 (MQ below (mm_Q g (fun v9 S9 => v9 = some (.int (k_str oc)) ∧ S9 = (th, ks, kc, rn, oc, hd, hs, se, bd, bs, dk, dp, ct, bo, wi, sh, lf, lc, mo, ah))) ([.ref (g.2.2 0)]).toArray s 0 0 (mo_fr g)) (F0 m 3 ls []) := by
    intro n
    induction n with
    | zero =>
      intro    H locs ls hl hP hSS hn hF
      refine lv_iload_n hx hb dM_straight_3 rfl (lv_at hl 0 rfl) ?_
      refine lv_iconst (v := 3) hx hb dM_straight_4 (by decide) ?_
      refine lv_icmp_lt (tgt := 72) hx hb dM_straight_5 (by decide) (fun hc3 => ?_) (fun hc3 => ?_)
      · refine lv_iconst (v := (-1)) hx hb dM_straight_72 (by decide) ?_
        exact mm_iret (S := (th, ks, kc, rn, oc, hd, hs, se, bd, bs, dk, dp, ct, bo, wi, sh, lf, lc, mo, ah)) hx hb hr hlk dM_straight_73 hP hSS (by subst ex1; exact ⟨by rw [hF]; rfl, rfl⟩)
      · exact absurd (by decide) hc3
    | succ n ih =>
      intro    H locs ls hl hP hSS hn hF
      refine lv_iload_n hx hb dM_straight_3 rfl (lv_at hl 0 rfl) ?_
      refine lv_iconst (v := 3) hx hb dM_straight_4 (by decide) ?_
      refine lv_icmp_lt (tgt := 72) hx hb dM_straight_5 (by decide) (fun hc4 => ?_) (fun hc4 => ?_)
      · exact absurd hc4 (nI_nlt (a := n + 1 + 2) (b := 3) (by omega) (by omega))
      · refine lv_iconst (v := 1) hx hb dM_straight_8 (by decide) ?_
        refine jt_topi (fun x5 ex5 => ?_)
        refine lv_istore_n (lv' := [(2, .int x5), (1, .int (nI ((n + 1) + 2))), (0, .ref (g.2.2 0))]) hx hb dM_straight_9 rfl hl (by decide) rfl (fun ls hl => ?_)
        refine lv_iconst (v := 0) hx hb dM_straight_10 (by decide) ?_
        refine jt_topi (fun x6 ex6 => ?_)
        refine lv_istore_n (lv' := [(3, .int x6), (2, .int x5), (1, .int (nI ((n + 1) + 2))), (0, .ref (g.2.2 0))]) hx hb dM_straight_11 rfl hl (by decide) rfl (fun ls hl => ?_)
        have hloop : ∀ (j : Nat) (a : Int32)   (H : Heap) (locs : List Loc) (ls : Array Slot), lv_has ls 5 [(3, .int (nI (5 - j))), (2, .int a), (1, .int (nI ((n + 1) + 2))), (0, .ref (g.2.2 0))] → va_P g.1 cl_X (mo_V g th ks kc rn oc hd hs se bd bs dk dp ct bo wi sh lf lc mo ah) H → va_S (mo_fr g) s.heap H locs → (j ≤ 5) → (∀  (H : Heap) (locs : List Loc) (ls : Array Slot), lv_has ls 5 [(2, .int (ks_in oc (nI ((n + 1) + 2)) j a)), (1, .int (nI ((n + 1) + 2))), (0, .ref (g.2.2 0))] → va_P g.1 cl_X (mo_V g th ks kc rn oc hd hs se bd bs dk dp ct bo wi sh lf lc mo ah) H → va_S (mo_fr g) s.heap H locs → W p l e (headSpec (wd yM_straight bM_straight 5 (some .int)) (rmD 0 0 0)).room s m ([.ref (g.2.2 0)]).toArray below meth c H locs 0 0 (MQ below (mm_Q g (fun v9 S9 => v9 = some (.int (k_str oc)) ∧ S9 = (th, ks, kc, rn, oc, hd, hs, se, bd, bs, dk, dp, ct, bo, wi, sh, lf, lc, mo, ah))) ([.ref (g.2.2 0)]).toArray s 0 0 (mo_fr g)) (F0 m 60 ls [])) → W p l e (headSpec (wd yM_straight bM_straight 5 (some .int)) (rmD 0 0 0)).room s m ([.ref (g.2.2 0)]).toArray below meth c H locs 0 0 (MQ below (mm_Q g (fun v9 S9 => v9 = some (.int (k_str oc)) ∧ S9 = (th, ks, kc, rn, oc, hd, hs, se, bd, bs, dk, dp, ct, bo, wi, sh, lf, lc, mo, ah))) ([.ref (g.2.2 0)]).toArray s 0 0 (mo_fr g)) (F0 m 12 ls []) := by
          intro j
          induction j with
          | zero =>
            intro a   H locs ls hl hP hSS hj K
            refine lv_iload_n hx hb dM_straight_12 rfl (lv_at hl 0 rfl) ?_
            refine lv_iconst (v := 5) hx hb dM_straight_13 (by decide) ?_
            refine lv_icmp_ge (tgt := 60) hx hb dM_straight_14 (by decide) (fun hc8 => ?_) (fun hc8 => ?_)
            · have hlB := lv_sub hl [1, 2, 3] rfl
              have hPB := hP
              have hSB := hSS
              simp only [ks_in, k_sr, if_true] at K
              exact K  _ _ _ hlB hPB hSB 
            · exact absurd (by decide) hc8
          | succ j ih =>
            intro a   H locs ls hl hP hSS hj K
            refine lv_iload_n hx hb dM_straight_12 rfl (lv_at hl 0 rfl) ?_
            refine lv_iconst (v := 5) hx hb dM_straight_13 (by decide) ?_
            refine lv_icmp_ge (tgt := 60) hx hb dM_straight_14 (by decide) (fun hc9 => ?_) (fun hc9 => ?_)
            · exact absurd hc9 (nI_ge (b := 5) (by omega) (by decide))
            · refine lv_iload_n hx hb dM_straight_17 rfl (lv_at hl 2 rfl) ?_
              refine lv_iload_n hx hb dM_straight_18 rfl (lv_at hl 0 rfl) ?_
              refine lv_isub hx hb dM_straight_19 ?_
              refine lv_if_ge (tgt := 28) hx hb dM_straight_20 (by decide) (fun hc10 => ?_) (fun hc10 => ?_)
              · refine lv_iload_n hx hb dM_straight_28 rfl (lv_at hl 2 rfl) ?_
                refine lv_iload_n hx hb dM_straight_29 rfl (lv_at hl 0 rfl) ?_
                refine lv_isub hx hb dM_straight_30 ?_
                refine jt_topi (fun x11 ex11 => ?_)
                refine lv_istore (lv' := [(4, .int x11), (3, .int (nI (5 - (j + 1)))), (2, .int a), (1, .int (nI ((n + 1) + 2))), (0, .ref (g.2.2 0))]) hx hb dM_straight_31 hl (by decide) rfl (fun ls hl => ?_)
                refine lv_iload_n hx hb dM_straight_33 rfl (lv_at hl 2 rfl) ?_
                refine lv_if_eq (tgt := 52) hx hb dM_straight_34 (by decide) (fun hc12 => ?_) (fun hc12 => ?_)
                · refine lv_iconst (v := 0) hx hb dM_straight_52 (by decide) ?_
                  refine jt_topi (fun x13 ex13 => ?_)
                  refine lv_istore_n (lv' := [(2, .int x13), (4, .int x11), (3, .int (nI (5 - (j + 1)))), (1, .int (nI ((n + 1) + 2))), (0, .ref (g.2.2 0))]) hx hb dM_straight_53 rfl hl (by decide) rfl (fun ls hl => ?_)
                  refine jv_iinc (a := 1) hx hb dM_straight_54 hl (k := 2) rfl (by decide) (by decide) (fun x14 ex14 ls hl => ?_)
                  have hl : lv_has ls 5 [(3, .int x14), (2, .int x13), (4, .int x11), (1, .int (nI ((n + 1) + 2))), (0, .ref (g.2.2 0))] := hl
                  refine lv_goto (tgt := 12) hx hb dM_straight_57 (by decide) ?_
                  rw [nI_up (by omega)] at ex14
                  have hlB := lv_sub hl [0, 1, 3, 4] rfl
                  have hPB := hP
                  have hSB := hSS
                  subst ex14 ex13 ex11
                  simp only [ks_in, k_sr, if_true, if_pos hc10, if_pos hc12] at K
                  exact ih _   _ _ _ hlB hPB hSB (by omega) K
                · refine lv_aload_n hx hb dM_straight_37 rfl (lv_at hl 4 rfl) ?_
                  refine va_get (D := g.1) (ci := 1) (v := .ref (g.2.2 3)) (C := "HandTablesModel") (T := T_M) (N := 20) hx hb hts (fun w hw => wd_in (u_inM w hw)) hown hK hP 0 rfl rfl 4 (by decide) (hts _ (wd_in (gw_mem 461 rfl rfl))) (fun _ h => h) rfl dM_straight_38 ?_
                  refine lv_iload hx hb dM_straight_41 (lv_at hl 0 rfl) ?_
                  refine va_iald hx hb hK hP 3 0 rfl rfl (by subst ex11; exact k_srin (by omega) (by omega) hc10) dM_straight_43 ?_
                  refine lv_iconst (v := 1) hx hb dM_straight_44 (by decide) ?_
                  refine lv_icmp_ne (tgt := 52) hx hb dM_straight_45 (by decide) (fun hc15 => ?_) (fun hc15 => ?_)
                  · refine lv_iconst (v := 0) hx hb dM_straight_52 (by decide) ?_
                    refine jt_topi (fun x16 ex16 => ?_)
                    refine lv_istore_n (lv' := [(2, .int x16), (4, .int x11), (3, .int (nI (5 - (j + 1)))), (1, .int (nI ((n + 1) + 2))), (0, .ref (g.2.2 0))]) hx hb dM_straight_53 rfl hl (by decide) rfl (fun ls hl => ?_)
                    refine jv_iinc (a := 1) hx hb dM_straight_54 hl (k := 2) rfl (by decide) (by decide) (fun x17 ex17 ls hl => ?_)
                    have hl : lv_has ls 5 [(3, .int x17), (2, .int x16), (4, .int x11), (1, .int (nI ((n + 1) + 2))), (0, .ref (g.2.2 0))] := hl
                    refine lv_goto (tgt := 12) hx hb dM_straight_57 (by decide) ?_
                    rw [nI_up (by omega)] at ex17
                    have hlB := lv_sub hl [0, 1, 3, 4] rfl
                    have hPB := hP
                    have hSB := hSS
                    subst ex17 ex16 ex11
                    simp only [ks_in, k_sr, if_true, if_pos hc10, if_neg hc12, if_neg hc15] at K
                    exact ih _   _ _ _ hlB hPB hSB (by omega) K
                  · refine lv_iconst (v := 1) hx hb dM_straight_48 (by decide) ?_
                    refine lv_goto (tgt := 53) hx hb dM_straight_49 (by decide) ?_
                    refine jt_topi (fun x18 ex18 => ?_)
                    refine lv_istore_n (lv' := [(2, .int x18), (4, .int x11), (3, .int (nI (5 - (j + 1)))), (1, .int (nI ((n + 1) + 2))), (0, .ref (g.2.2 0))]) hx hb dM_straight_53 rfl hl (by decide) rfl (fun ls hl => ?_)
                    refine jv_iinc (a := 1) hx hb dM_straight_54 hl (k := 2) rfl (by decide) (by decide) (fun x19 ex19 ls hl => ?_)
                    have hl : lv_has ls 5 [(3, .int x19), (2, .int x18), (4, .int x11), (1, .int (nI ((n + 1) + 2))), (0, .ref (g.2.2 0))] := hl
                    refine lv_goto (tgt := 12) hx hb dM_straight_57 (by decide) ?_
                    rw [nI_up (by omega)] at ex19
                    have hlB := lv_sub hl [0, 1, 3, 4] rfl
                    have hPB := hP
                    have hSB := hSS
                    subst ex19 ex18 ex11
                    simp only [ks_in, k_sr, if_true, if_pos hc10, if_neg hc12, if_pos hc15] at K
                    exact ih _   _ _ _ hlB hPB hSB (by omega) K
              · refine lv_bipush (v := 12) hx hb dM_straight_23 (by decide) ?_
                refine lv_goto (tgt := 31) hx hb dM_straight_25 (by decide) ?_
                refine jt_topi (fun x20 ex20 => ?_)
                refine lv_istore (lv' := [(4, .int x20), (3, .int (nI (5 - (j + 1)))), (2, .int a), (1, .int (nI ((n + 1) + 2))), (0, .ref (g.2.2 0))]) hx hb dM_straight_31 hl (by decide) rfl (fun ls hl => ?_)
                refine lv_iload_n hx hb dM_straight_33 rfl (lv_at hl 2 rfl) ?_
                refine lv_if_eq (tgt := 52) hx hb dM_straight_34 (by decide) (fun hc21 => ?_) (fun hc21 => ?_)
                · refine lv_iconst (v := 0) hx hb dM_straight_52 (by decide) ?_
                  refine jt_topi (fun x22 ex22 => ?_)
                  refine lv_istore_n (lv' := [(2, .int x22), (4, .int x20), (3, .int (nI (5 - (j + 1)))), (1, .int (nI ((n + 1) + 2))), (0, .ref (g.2.2 0))]) hx hb dM_straight_53 rfl hl (by decide) rfl (fun ls hl => ?_)
                  refine jv_iinc (a := 1) hx hb dM_straight_54 hl (k := 2) rfl (by decide) (by decide) (fun x23 ex23 ls hl => ?_)
                  have hl : lv_has ls 5 [(3, .int x23), (2, .int x22), (4, .int x20), (1, .int (nI ((n + 1) + 2))), (0, .ref (g.2.2 0))] := hl
                  refine lv_goto (tgt := 12) hx hb dM_straight_57 (by decide) ?_
                  rw [nI_up (by omega)] at ex23
                  have hlB := lv_sub hl [0, 1, 3, 4] rfl
                  have hPB := hP
                  have hSB := hSS
                  subst ex23 ex22 ex20
                  simp only [ks_in, k_sr, if_true, if_neg hc10, if_pos hc21] at K
                  exact ih _   _ _ _ hlB hPB hSB (by omega) K
                · refine lv_aload_n hx hb dM_straight_37 rfl (lv_at hl 4 rfl) ?_
                  refine va_get (D := g.1) (ci := 1) (v := .ref (g.2.2 3)) (C := "HandTablesModel") (T := T_M) (N := 20) hx hb hts (fun w hw => wd_in (u_inM w hw)) hown hK hP 0 rfl rfl 4 (by decide) (hts _ (wd_in (gw_mem 461 rfl rfl))) (fun _ h => h) rfl dM_straight_38 ?_
                  refine lv_iload hx hb dM_straight_41 (lv_at hl 0 rfl) ?_
                  refine va_iald hx hb hK hP 3 0 rfl rfl (by subst ex20; unfold vp_in; decide) dM_straight_43 ?_
                  refine lv_iconst (v := 1) hx hb dM_straight_44 (by decide) ?_
                  refine lv_icmp_ne (tgt := 52) hx hb dM_straight_45 (by decide) (fun hc24 => ?_) (fun hc24 => ?_)
                  · refine lv_iconst (v := 0) hx hb dM_straight_52 (by decide) ?_
                    refine jt_topi (fun x25 ex25 => ?_)
                    refine lv_istore_n (lv' := [(2, .int x25), (4, .int x20), (3, .int (nI (5 - (j + 1)))), (1, .int (nI ((n + 1) + 2))), (0, .ref (g.2.2 0))]) hx hb dM_straight_53 rfl hl (by decide) rfl (fun ls hl => ?_)
                    refine jv_iinc (a := 1) hx hb dM_straight_54 hl (k := 2) rfl (by decide) (by decide) (fun x26 ex26 ls hl => ?_)
                    have hl : lv_has ls 5 [(3, .int x26), (2, .int x25), (4, .int x20), (1, .int (nI ((n + 1) + 2))), (0, .ref (g.2.2 0))] := hl
                    refine lv_goto (tgt := 12) hx hb dM_straight_57 (by decide) ?_
                    rw [nI_up (by omega)] at ex26
                    have hlB := lv_sub hl [0, 1, 3, 4] rfl
                    have hPB := hP
                    have hSB := hSS
                    subst ex26 ex25 ex20
                    simp only [ks_in, k_sr, if_true, if_neg hc10, if_neg hc21, if_neg hc24] at K
                    exact ih _   _ _ _ hlB hPB hSB (by omega) K
                  · refine lv_iconst (v := 1) hx hb dM_straight_48 (by decide) ?_
                    refine lv_goto (tgt := 53) hx hb dM_straight_49 (by decide) ?_
                    refine jt_topi (fun x27 ex27 => ?_)
                    refine lv_istore_n (lv' := [(2, .int x27), (4, .int x20), (3, .int (nI (5 - (j + 1)))), (1, .int (nI ((n + 1) + 2))), (0, .ref (g.2.2 0))]) hx hb dM_straight_53 rfl hl (by decide) rfl (fun ls hl => ?_)
                    refine jv_iinc (a := 1) hx hb dM_straight_54 hl (k := 2) rfl (by decide) (by decide) (fun x28 ex28 ls hl => ?_)
                    have hl : lv_has ls 5 [(3, .int x28), (2, .int x27), (4, .int x20), (1, .int (nI ((n + 1) + 2))), (0, .ref (g.2.2 0))] := hl
                    refine lv_goto (tgt := 12) hx hb dM_straight_57 (by decide) ?_
                    rw [nI_up (by omega)] at ex28
                    have hlB := lv_sub hl [0, 1, 3, 4] rfl
                    have hPB := hP
                    have hSB := hSS
                    subst ex28 ex27 ex20
                    simp only [ks_in, k_sr, if_true, if_neg hc10, if_neg hc21, if_pos hc24] at K
                    exact ih _   _ _ _ hlB hPB hSB (by omega) K
        refine hloop 5 x5   _ _ ls (by have h9 := lv_sub hl [0, 1, 2, 3] rfl; subst ex6; exact h9) hP hSS (by decide) (fun  H locs ls hl hP hSS  => ?_)
        clear hloop
        obtain ⟨y29, ey29⟩ : ∃ z, (ks_in oc (nI ((n + 1) + 2)) 5 x5) = z := ⟨_, rfl⟩
        rw [ey29] at hl
        refine lv_iload_n hx hb dM_straight_60 rfl (lv_at hl 0 rfl) ?_
        refine lv_if_eq (tgt := 66) hx hb dM_straight_61 (by decide) (fun hc30 => ?_) (fun hc30 => ?_)
        · refine jv_iinc (a := (-1)) hx hb dM_straight_66 hl (k := 1) rfl (by decide) (by decide) (fun x31 ex31 ls hl => ?_)
          have hl : lv_has ls 5 [(1, .int x31), (2, .int y29), (0, .ref (g.2.2 0))] := hl
          refine lv_goto (tgt := 3) hx hb dM_straight_69 (by decide) ?_
          rw [show nI (n + 1 + 2) + (-1) = nI (n + 2) from nI_dec (n + 2)] at ex31
          have hlB := lv_sub hl [0, 2] rfl
          have hPB := hP
          have hSB := hSS
          subst ex31 ey29 ex6 ex5
          exact ih    _ _ _ hlB hPB hSB (by omega) (by rw [hF]; simp only [ks_out, if_pos hc30])
        · refine lv_iload_n hx hb dM_straight_64 rfl (lv_at hl 1 rfl) ?_
          exact mm_iret (S := (th, ks, kc, rn, oc, hd, hs, se, bd, bs, dk, dp, ct, bo, wi, sh, lf, lc, mo, ah)) hx hb hr hlk dM_straight_65 hP hSS (by subst ey29 ex6 ex5 ex1; exact ⟨by rw [hF]; simp only [ks_out, if_neg hc30], rfl⟩)
  exact hloop 10    _ _ ls (by have h9 := lv_sub hl [0, 1] rfl; subst ex1; exact h9) hP hSS (by decide) rfl
set_option maxHeartbeats 4000000 in
set_option maxRecDepth 100000 in
theorem cM_with (l : Launch) (g : mo_E) (th : Int32) (ks : Nat → Int32) (kc : Int32) (rn : Nat → Int32) (oc : Nat → Int32) (hd : Nat → Int32) (hs : Int32) (se : Nat → Int32) (bd : Nat → Int32) (bs : Int32) (dk : Nat → Int32) (dp : Int32) (ct : Int32) (bo : Int32) (wi : Nat → Int32) (sh : Nat → Int32) (lf : Nat → Int32) (lc : Int32) (mo : Int32) (ah : Int32) (t : Int32)  (hap : mo_ap g)  : mm_M l yM_with bM_with 4 (some .int) 0 [.ref (g.2.2 0), .int t] g (th, ks, kc, rn, oc, hd, hs, se, bd, bs, dk, dp, ct, bo, wi, sh, lf, lc, mo, ah) (fun v9 S9 => v9 = some (.int (k_with oc t)) ∧ S9 = (th, ks, kc, rn, oc, hd, hs, se, bd, bs, dk, dp, ct, bo, wi, sh, lf, lc, mo, ah)) := by
  refine Met.ofW (cc := bM_with) (maxL := 4) (ret := (some .int)) (by decide) rfl ?_
  intro p e s m args below meth c s₁ BB hml hv
  obtain ⟨rfl, hB⟩ := hv
  have hx := BB.exec
  have hb := BB.bytes
  have hr := BB.returns
  have hlk := BB.notSynchronized
  have hts := atoms_spec (ws := wd yM_with bM_with 4 (some .int)) BB.pre
  have hown : s.vm.findClass "HandTablesModel" = some m.cls := findClass_of_methodNamed BB.named
  have hS : CallFix p m c bM_with 4 s _ (wd yM_with bM_with 4 (some .int)) "HandTablesModel" := ⟨hx, hb, hml, hown, hts⟩
  obtain ⟨hP, hK⟩ := hB
  have hP : va_P g.1 cl_X (mo_V g th ks kc rn oc hd hs se bd bs dk dp ct bo wi sh lf lc mo ah) s.heap := hP
  have hSS : va_S (mo_fr g) s.heap s.heap [] := va_S.rf
  have hl := lv_entry ([.ref (g.2.2 0), .int t]) (n := 4) (Nat.le_of_ble_eq_true rfl)
  rw [lg_entry_eq]
  generalize (lg_sl ([.ref (g.2.2 0), .int t]) ++ List.replicate (4 - (lg_sl ([.ref (g.2.2 0), .int t])).length) Slot.unset).toArray = ls at hl ⊢
  have hl : lv_has ls 4 [(0, .ref (g.2.2 0)), (1, .int t)] := hl
  obtain ⟨H, eH⟩ : ∃ H, s.heap = H := ⟨_, rfl⟩
  obtain ⟨locs, eL⟩ : ∃ L, ([] : List Loc) = L := ⟨_, rfl⟩
  have hP : va_P g.1 cl_X (mo_V g th ks kc rn oc hd hs se bd bs dk dp ct bo wi sh lf lc mo ah) H := by rw [← eH]; exact hP
  have hSS : va_S (mo_fr g) s.heap H locs := by rw [← eH, ← eL]; exact hSS
  refine mm_go eH eL ?_
  clear eH eL
  refine lv_iconst (v := 0) hx hb dM_with_0 (by decide) ?_
  refine jt_topi (fun x1 ex1 => ?_)
  refine lv_istore_n (lv' := [(2, .int x1), (0, .ref (g.2.2 0)), (1, .int t)]) hx hb dM_with_1 rfl hl (by decide) rfl (fun ls hl => ?_)
  refine lv_iconst (v := 0) hx hb dM_with_2 (by decide) ?_
  refine jt_topi (fun x2 ex2 => ?_)
  refine lv_istore_n (lv' := [(3, .int x2), (2, .int x1), (0, .ref (g.2.2 0)), (1, .int t)]) hx hb dM_with_3 rfl hl (by decide) rfl (fun ls hl => ?_)
  have hloop : ∀ (n : Nat) (a : Int32)   (H : Heap) (locs : List Loc) (ls : Array Slot), lv_has ls 4 [(3, .int (nI (13 - n))), (2, .int a), (1, .int t), (0, .ref (g.2.2 0))] → va_P g.1 cl_X (mo_V g th ks kc rn oc hd hs se bd bs dk dp ct bo wi sh lf lc mo ah) H → va_S (mo_fr g) s.heap H locs → (n ≤ 13) → (∀  (H : Heap) (locs : List Loc) (ls : Array Slot), lv_has ls 4 [(2, .int (kw_lp oc t n a))] → va_P g.1 cl_X (mo_V g th ks kc rn oc hd hs se bd bs dk dp ct bo wi sh lf lc mo ah) H → va_S (mo_fr g) s.heap H locs → W p l e (headSpec (wd yM_with bM_with 4 (some .int)) (rmD 0 0 0)).room s m ([.ref (g.2.2 0), .int t]).toArray below meth c H locs 0 0 (MQ below (mm_Q g (fun v9 S9 => v9 = some (.int (k_with oc t)) ∧ S9 = (th, ks, kc, rn, oc, hd, hs, se, bd, bs, dk, dp, ct, bo, wi, sh, lf, lc, mo, ah))) ([.ref (g.2.2 0), .int t]).toArray s 0 0 (mo_fr g)) (F0 m 34 ls [])) → W p l e (headSpec (wd yM_with bM_with 4 (some .int)) (rmD 0 0 0)).room s m ([.ref (g.2.2 0), .int t]).toArray below meth c H locs 0 0 (MQ below (mm_Q g (fun v9 S9 => v9 = some (.int (k_with oc t)) ∧ S9 = (th, ks, kc, rn, oc, hd, hs, se, bd, bs, dk, dp, ct, bo, wi, sh, lf, lc, mo, ah))) ([.ref (g.2.2 0), .int t]).toArray s 0 0 (mo_fr g)) (F0 m 4 ls []) := by
    intro n
    induction n with
    | zero =>
      intro a   H locs ls hl hP hSS hn K
      refine lv_iload_n hx hb dM_with_4 rfl (lv_at hl 0 rfl) ?_
      refine lv_bipush (v := 13) hx hb dM_with_5 (by decide) ?_
      refine lv_icmp_ge (tgt := 34) hx hb dM_with_7 (by decide) (fun hc4 => ?_) (fun hc4 => ?_)
      · have hlB := lv_sub hl [1] rfl
        have hPB := hP
        have hSB := hSS
        simp only [kw_lp] at K
        exact K  _ _ _ hlB hPB hSB 
      · exact absurd (by decide) hc4
    | succ n ih =>
      intro a   H locs ls hl hP hSS hn K
      refine lv_iload_n hx hb dM_with_4 rfl (lv_at hl 0 rfl) ?_
      refine lv_bipush (v := 13) hx hb dM_with_5 (by decide) ?_
      refine lv_icmp_ge (tgt := 34) hx hb dM_with_7 (by decide) (fun hc5 => ?_) (fun hc5 => ?_)
      · exact absurd hc5 (nI_ge (b := 13) (by omega) (by decide))
      · refine lv_aload_n hx hb dM_with_10 rfl (lv_at hl 3 rfl) ?_
        refine va_get (D := g.1) (ci := 1) (v := .ref (g.2.2 3)) (C := "HandTablesModel") (T := T_M) (N := 20) hx hb hts (fun w hw => wd_in (u_inM w hw)) hown hK hP 0 rfl rfl 4 (by decide) (hts _ (wd_in (gw_mem 461 rfl rfl))) (fun _ h => h) rfl dM_with_11 ?_
        refine lv_iload_n hx hb dM_with_14 rfl (lv_at hl 0 rfl) ?_
        refine va_iald hx hb hK hP 3 0 rfl rfl (vp_in_nI (by omega) (by decide)) dM_with_15 ?_
        refine lv_iload_n hx hb dM_with_16 rfl (lv_at hl 2 rfl) ?_
        refine lv_icmp_ne (tgt := 26) hx hb dM_with_17 (by decide) (fun hc6 => ?_) (fun hc6 => ?_)
        · refine lv_iload_n hx hb dM_with_26 rfl (lv_at hl 1 rfl) ?_
          refine jt_topi (fun x7 ex7 => ?_)
          refine lv_istore_n (lv' := [(2, .int x7), (3, .int (nI (13 - (n + 1)))), (1, .int t), (0, .ref (g.2.2 0))]) hx hb dM_with_27 rfl hl (by decide) rfl (fun ls hl => ?_)
          refine jv_iinc (a := 1) hx hb dM_with_28 hl (k := 1) rfl (by decide) (by decide) (fun x8 ex8 ls hl => ?_)
          have hl : lv_has ls 4 [(3, .int x8), (2, .int x7), (1, .int t), (0, .ref (g.2.2 0))] := hl
          refine lv_goto (tgt := 4) hx hb dM_with_31 (by decide) ?_
          rw [nI_up (by omega)] at ex8
          have hlB := lv_sub hl [0, 1, 2, 3] rfl
          have hPB := hP
          have hSB := hSS
          subst ex8 ex7
          simp only [kw_lp, if_neg hc6] at K
          exact ih _   _ _ _ hlB hPB hSB (by omega) K
        · refine lv_iload_n hx hb dM_with_20 rfl (lv_at hl 1 rfl) ?_
          refine lv_iconst (v := 1) hx hb dM_with_21 (by decide) ?_
          refine lv_iadd hx hb dM_with_22 ?_
          refine lv_goto (tgt := 27) hx hb dM_with_23 (by decide) ?_
          refine jt_topi (fun x9 ex9 => ?_)
          refine lv_istore_n (lv' := [(2, .int x9), (3, .int (nI (13 - (n + 1)))), (1, .int t), (0, .ref (g.2.2 0))]) hx hb dM_with_27 rfl hl (by decide) rfl (fun ls hl => ?_)
          refine jv_iinc (a := 1) hx hb dM_with_28 hl (k := 1) rfl (by decide) (by decide) (fun x10 ex10 ls hl => ?_)
          have hl : lv_has ls 4 [(3, .int x10), (2, .int x9), (1, .int t), (0, .ref (g.2.2 0))] := hl
          refine lv_goto (tgt := 4) hx hb dM_with_31 (by decide) ?_
          rw [nI_up (by omega)] at ex10
          have hlB := lv_sub hl [0, 1, 2, 3] rfl
          have hPB := hP
          have hSB := hSS
          subst ex10 ex9
          simp only [kw_lp, if_pos hc6] at K
          exact ih _   _ _ _ hlB hPB hSB (by omega) K
  refine hloop 13 x1   _ _ ls (by have h9 := lv_sub hl [0, 1, 3, 2] rfl; subst ex2; exact h9) hP hSS (by decide) (fun  H locs ls hl hP hSS  => ?_)
  clear hloop
  obtain ⟨y11, ey11⟩ : ∃ z, (kw_lp oc t 13 x1) = z := ⟨_, rfl⟩
  rw [ey11] at hl
  refine lv_iload_n hx hb dM_with_34 rfl (lv_at hl 0 rfl) ?_
  exact mm_iret (S := (th, ks, kc, rn, oc, hd, hs, se, bd, bs, dk, dp, ct, bo, wi, sh, lf, lc, mo, ah)) hx hb hr hlk dM_with_35 hP hSS (by exact ⟨by subst ey11 ex2 ex1; (try simp only [k_with]) <;> rfl, by subst ey11 ex2 ex1; (try simp only [k_with]) <;> rfl⟩)
set_option maxHeartbeats 4000000 in
set_option maxRecDepth 100000 in
theorem cM_keyOf0 (l : Launch) (g : mo_E) (th : Int32) (ks : Nat → Int32) (kc : Int32) (rn : Nat → Int32) (oc : Nat → Int32) (hd : Nat → Int32) (hs : Int32) (se : Nat → Int32) (bd : Nat → Int32) (bs : Int32) (dk : Nat → Int32) (dp : Int32) (ct : Int32) (bo : Int32) (wi : Nat → Int32) (sh : Nat → Int32) (lf : Nat → Int32) (lc : Int32) (mo : Int32) (ah : Int32) (u : Int32)  (hap : mo_ap g) (hrn : ∀ i, i < 5 → vp_in (rn i) 13) : mm_M l yM_keyOf bM_keyOf 8 (some .int) 1 [.ref (g.2.2 0), .int u] g (th, ks, kc, rn, oc, hd, hs, se, bd, bs, dk, dp, ct, bo, wi, sh, lf, lc, mo, ah) (fun v9 S9 => v9 = some (.int (k_key (kc_lp rn 5 (kz_lp 13 oc)) u)) ∧ ∃ (oc' : Nat → Int32), S9 = (th, ks, kc, rn, oc', hd, hs, se, bd, bs, dk, dp, ct, bo, wi, sh, lf, lc, mo, ah)) := by
  refine Met.ofW (cc := bM_keyOf) (maxL := 8) (ret := (some .int)) (by decide) rfl ?_
  intro p e s m args below meth c s₁ BB hml hv
  obtain ⟨rfl, hB⟩ := hv
  have hx := BB.exec
  have hb := BB.bytes
  have hr := BB.returns
  have hlk := BB.notSynchronized
  have hts := atoms_spec (ws := wd yM_keyOf bM_keyOf 8 (some .int)) BB.pre
  have hown : s.vm.findClass "HandTablesModel" = some m.cls := findClass_of_methodNamed BB.named
  have hS : CallFix p m c bM_keyOf 8 s _ (wd yM_keyOf bM_keyOf 8 (some .int)) "HandTablesModel" := ⟨hx, hb, hml, hown, hts⟩
  obtain ⟨hP, hK⟩ := hB
  have hP : va_P g.1 cl_X (mo_V g th ks kc rn oc hd hs se bd bs dk dp ct bo wi sh lf lc mo ah) s.heap := hP
  have hSS : va_S (mo_fr g) s.heap s.heap [] := va_S.rf
  have hl := lv_entry ([.ref (g.2.2 0), .int u]) (n := 8) (Nat.le_of_ble_eq_true rfl)
  rw [lg_entry_eq]
  generalize (lg_sl ([.ref (g.2.2 0), .int u]) ++ List.replicate (8 - (lg_sl ([.ref (g.2.2 0), .int u])).length) Slot.unset).toArray = ls at hl ⊢
  have hl : lv_has ls 8 [(0, .ref (g.2.2 0)), (1, .int u)] := hl
  obtain ⟨H, eH⟩ : ∃ H, s.heap = H := ⟨_, rfl⟩
  obtain ⟨locs, eL⟩ : ∃ L, ([] : List Loc) = L := ⟨_, rfl⟩
  have hP : va_P g.1 cl_X (mo_V g th ks kc rn oc hd hs se bd bs dk dp ct bo wi sh lf lc mo ah) H := by rw [← eH]; exact hP
  have hSS : va_S (mo_fr g) s.heap H locs := by rw [← eH, ← eL]; exact hSS
  refine mm_go eH eL ?_
  clear eH eL
  refine lv_iconst (v := 0) hx hb dM_keyOf_0 (by decide) ?_
  refine jt_topi (fun x1 ex1 => ?_)
  refine lv_istore_n (lv' := [(2, .int x1), (0, .ref (g.2.2 0)), (1, .int u)]) hx hb dM_keyOf_1 rfl hl (by decide) rfl (fun ls hl => ?_)
  have hloop : ∀ (n : Nat)   (woc2 : Nat → Int32) (H : Heap) (locs : List Loc) (ls : Array Slot), lv_has ls 8 [(2, .int (nI (13 - n))), (1, .int u), (0, .ref (g.2.2 0))] → va_P g.1 cl_X (mo_V g th ks kc rn woc2 hd hs se bd bs dk dp ct bo wi sh lf lc mo ah) H → va_S (mo_fr g) s.heap H locs → (n ≤ 13) → (∀  (H : Heap) (locs : List Loc) (ls : Array Slot), lv_has ls 8 [(1, .int u), (0, .ref (g.2.2 0))] → va_P g.1 cl_X (mo_V g th ks kc rn (kz_lp n woc2) hd hs se bd bs dk dp ct bo wi sh lf lc mo ah) H → va_S (mo_fr g) s.heap H locs → W p l e (headSpec (wd yM_keyOf bM_keyOf 8 (some .int)) (rmD 1 0 0)).room s m ([.ref (g.2.2 0), .int u]).toArray below meth c H locs 0 0 (MQ below (mm_Q g (fun v9 S9 => v9 = some (.int (k_key (kc_lp rn 5 (kz_lp 13 oc)) u)) ∧ ∃ (oc' : Nat → Int32), S9 = (th, ks, kc, rn, oc', hd, hs, se, bd, bs, dk, dp, ct, bo, wi, sh, lf, lc, mo, ah))) ([.ref (g.2.2 0), .int u]).toArray s 0 0 (mo_fr g)) (F0 m 21 ls [])) → W p l e (headSpec (wd yM_keyOf bM_keyOf 8 (some .int)) (rmD 1 0 0)).room s m ([.ref (g.2.2 0), .int u]).toArray below meth c H locs 0 0 (MQ below (mm_Q g (fun v9 S9 => v9 = some (.int (k_key (kc_lp rn 5 (kz_lp 13 oc)) u)) ∧ ∃ (oc' : Nat → Int32), S9 = (th, ks, kc, rn, oc', hd, hs, se, bd, bs, dk, dp, ct, bo, wi, sh, lf, lc, mo, ah))) ([.ref (g.2.2 0), .int u]).toArray s 0 0 (mo_fr g)) (F0 m 2 ls []) := by
    intro n
    induction n with
    | zero =>
      intro   woc2 H locs ls hl hP hSS hn K
      refine lv_iload_n hx hb dM_keyOf_2 rfl (lv_at hl 0 rfl) ?_
      refine lv_bipush (v := 13) hx hb dM_keyOf_3 (by decide) ?_
      refine lv_icmp_ge (tgt := 21) hx hb dM_keyOf_5 (by decide) (fun hc3 => ?_) (fun hc3 => ?_)
      · have hlB := lv_sub hl [1, 2] rfl
        have hPB := hP
        have hSB := hSS
        simp only [kz_lp] at K
        exact K  _ _ _ hlB hPB hSB 
      · exact absurd (by decide) hc3
    | succ n ih =>
      intro   woc2 H locs ls hl hP hSS hn K
      refine lv_iload_n hx hb dM_keyOf_2 rfl (lv_at hl 0 rfl) ?_
      refine lv_bipush (v := 13) hx hb dM_keyOf_3 (by decide) ?_
      refine lv_icmp_ge (tgt := 21) hx hb dM_keyOf_5 (by decide) (fun hc4 => ?_) (fun hc4 => ?_)
      · exact absurd hc4 (nI_ge (b := 13) (by omega) (by decide))
      · refine lv_aload_n hx hb dM_keyOf_8 rfl (lv_at hl 2 rfl) ?_
        refine va_get (D := g.1) (ci := 1) (v := .ref (g.2.2 3)) (C := "HandTablesModel") (T := T_M) (N := 20) hx hb hts (fun w hw => wd_in (u_inM w hw)) hown hK hP 0 rfl rfl 4 (by decide) (hts _ (wd_in (gw_mem 461 rfl rfl))) (fun _ h => h) rfl dM_keyOf_9 ?_
        refine lv_iload_n hx hb dM_keyOf_12 rfl (lv_at hl 0 rfl) ?_
        refine lv_iconst (v := 0) hx hb dM_keyOf_13 (by decide) ?_
        refine va_iast (x := 0) hx hb hK hP (mo_D hap) hSS 3 0 rfl rfl (vp_in_nI (by omega) (by decide)) dM_keyOf_14 (fun H locs hP _ hSS => ?_)
        have hP : va_P g.1 cl_X (mo_V g th ks kc rn (upd woc2 ((nI (13 - (n + 1))) : Int32).toNatClampNeg 0) hd hs se bd bs dk dp ct bo wi sh lf lc mo ah) H := hP
        refine jv_iinc (a := 1) hx hb dM_keyOf_15 hl (k := 0) rfl (by decide) (by decide) (fun x5 ex5 ls hl => ?_)
        have hl : lv_has ls 8 [(2, .int x5), (1, .int u), (0, .ref (g.2.2 0))] := hl
        refine lv_goto (tgt := 2) hx hb dM_keyOf_18 (by decide) ?_
        rw [nI_up (by omega)] at ex5
        have hlB := lv_sub hl [0, 1, 2] rfl
        have hPB := hP
        have hSB := hSS
        subst ex5
        simp only [kz_lp] at K
        exact ih   _ _ _ _ hlB hPB hSB (by omega) K
  refine hloop 13   oc _ _ ls (by have h9 := lv_sub hl [0, 2, 1] rfl; subst ex1; exact h9) hP hSS (by decide) (fun  H locs ls hl hP hSS  => ?_)
  clear hloop
  refine lv_iconst (v := 0) hx hb dM_keyOf_21 (by decide) ?_
  refine jt_topi (fun x6 ex6 => ?_)
  refine lv_istore_n (lv' := [(2, .int x6), (1, .int u), (0, .ref (g.2.2 0))]) hx hb dM_keyOf_22 rfl hl (by decide) rfl (fun ls hl => ?_)
  have hloop : ∀ (n : Nat)   (woc7 : Nat → Int32) (H : Heap) (locs : List Loc) (ls : Array Slot), lv_has ls 8 [(2, .int (nI (5 - n))), (1, .int u), (0, .ref (g.2.2 0))] → va_P g.1 cl_X (mo_V g th ks kc rn woc7 hd hs se bd bs dk dp ct bo wi sh lf lc mo ah) H → va_S (mo_fr g) s.heap H locs → (n ≤ 5) → (∀  (H : Heap) (locs : List Loc) (ls : Array Slot), lv_has ls 8 [(1, .int u), (0, .ref (g.2.2 0))] → va_P g.1 cl_X (mo_V g th ks kc rn (kc_lp rn n woc7) hd hs se bd bs dk dp ct bo wi sh lf lc mo ah) H → va_S (mo_fr g) s.heap H locs → W p l e (headSpec (wd yM_keyOf bM_keyOf 8 (some .int)) (rmD 1 0 0)).room s m ([.ref (g.2.2 0), .int u]).toArray below meth c H locs 0 0 (MQ below (mm_Q g (fun v9 S9 => v9 = some (.int (k_key (kc_lp rn 5 (kz_lp 13 oc)) u)) ∧ ∃ (oc' : Nat → Int32), S9 = (th, ks, kc, rn, oc', hd, hs, se, bd, bs, dk, dp, ct, bo, wi, sh, lf, lc, mo, ah))) ([.ref (g.2.2 0), .int u]).toArray s 0 0 (mo_fr g)) (F0 m 49 ls [])) → W p l e (headSpec (wd yM_keyOf bM_keyOf 8 (some .int)) (rmD 1 0 0)).room s m ([.ref (g.2.2 0), .int u]).toArray below meth c H locs 0 0 (MQ below (mm_Q g (fun v9 S9 => v9 = some (.int (k_key (kc_lp rn 5 (kz_lp 13 oc)) u)) ∧ ∃ (oc' : Nat → Int32), S9 = (th, ks, kc, rn, oc', hd, hs, se, bd, bs, dk, dp, ct, bo, wi, sh, lf, lc, mo, ah))) ([.ref (g.2.2 0), .int u]).toArray s 0 0 (mo_fr g)) (F0 m 23 ls []) := by
    intro n
    induction n with
    | zero =>
      intro   woc7 H locs ls hl hP hSS hn K
      refine lv_iload_n hx hb dM_keyOf_23 rfl (lv_at hl 0 rfl) ?_
      refine lv_iconst (v := 5) hx hb dM_keyOf_24 (by decide) ?_
      refine lv_icmp_ge (tgt := 49) hx hb dM_keyOf_25 (by decide) (fun hc8 => ?_) (fun hc8 => ?_)
      · have hlB := lv_sub hl [1, 2] rfl
        have hPB := hP
        have hSB := hSS
        simp only [kc_lp] at K
        exact K  _ _ _ hlB hPB hSB 
      · exact absurd (by decide) hc8
    | succ n ih =>
      intro   woc7 H locs ls hl hP hSS hn K
      refine lv_iload_n hx hb dM_keyOf_23 rfl (lv_at hl 0 rfl) ?_
      refine lv_iconst (v := 5) hx hb dM_keyOf_24 (by decide) ?_
      refine lv_icmp_ge (tgt := 49) hx hb dM_keyOf_25 (by decide) (fun hc9 => ?_) (fun hc9 => ?_)
      · exact absurd hc9 (nI_ge (b := 5) (by omega) (by decide))
      · refine lv_aload_n hx hb dM_keyOf_28 rfl (lv_at hl 2 rfl) ?_
        refine va_get (D := g.1) (ci := 1) (v := .ref (g.2.2 3)) (C := "HandTablesModel") (T := T_M) (N := 20) hx hb hts (fun w hw => wd_in (u_inM w hw)) hown hK hP 0 rfl rfl 4 (by decide) (hts _ (wd_in (gw_mem 461 rfl rfl))) (fun _ h => h) rfl dM_keyOf_29 ?_
        refine lv_aload_n hx hb dM_keyOf_32 rfl (lv_at hl 2 rfl) ?_
        refine va_get (D := g.1) (ci := 1) (v := .ref (g.2.2 2)) (C := "HandTablesModel") (T := T_M) (N := 20) hx hb hts (fun w hw => wd_in (u_inM w hw)) hown hK hP 0 rfl rfl 3 (by decide) (hts _ (wd_in (gw_mem 460 rfl rfl))) (fun _ h => h) rfl dM_keyOf_33 ?_
        refine lv_iload_n hx hb dM_keyOf_36 rfl (lv_at hl 0 rfl) ?_
        refine va_iald hx hb hK hP 2 0 rfl rfl (vp_in_nI (by omega) (by decide)) dM_keyOf_37 ?_
        refine lv_dup2_11 hx hb dM_keyOf_38 rfl rfl ?_
        refine va_iald hx hb hK hP 3 0 rfl rfl (by rw [nI_clamp (by omega)]; exact hrn _ (by omega)) dM_keyOf_39 ?_
        refine lv_iconst (v := 1) hx hb dM_keyOf_40 (by decide) ?_
        refine lv_iadd hx hb dM_keyOf_41 ?_
        refine va_iast (x := ((woc7 ((rn ((nI (5 - (n + 1))) : Int32).toNatClampNeg) : Int32).toNatClampNeg) + 1)) hx hb hK hP (mo_D hap) hSS 3 0 rfl rfl (by rw [nI_clamp (by omega)]; exact hrn _ (by omega)) dM_keyOf_42 (fun H locs hP _ hSS => ?_)
        have hP : va_P g.1 cl_X (mo_V g th ks kc rn (upd woc7 ((rn ((nI (5 - (n + 1))) : Int32).toNatClampNeg) : Int32).toNatClampNeg ((woc7 ((rn ((nI (5 - (n + 1))) : Int32).toNatClampNeg) : Int32).toNatClampNeg) + 1)) hd hs se bd bs dk dp ct bo wi sh lf lc mo ah) H := hP
        refine jv_iinc (a := 1) hx hb dM_keyOf_43 hl (k := 0) rfl (by decide) (by decide) (fun x10 ex10 ls hl => ?_)
        have hl : lv_has ls 8 [(2, .int x10), (1, .int u), (0, .ref (g.2.2 0))] := hl
        refine lv_goto (tgt := 23) hx hb dM_keyOf_46 (by decide) ?_
        rw [nI_up (by omega)] at ex10
        have hlB := lv_sub hl [0, 1, 2] rfl
        have hPB := hP
        have hSB := hSS
        subst ex10
        simp only [kc_lp] at K
        exact ih   _ _ _ _ hlB hPB hSB (by omega) K
  refine hloop 5   (kz_lp 13 oc) _ _ ls (by have h9 := lv_sub hl [0, 1, 2] rfl; subst ex6; exact h9) hP hSS (by decide) (fun  H locs ls hl hP hSS  => ?_)
  clear hloop
  refine lv_aload_n hx hb dM_keyOf_49 rfl (lv_at hl 1 rfl) ?_
  refine mm_V (cM_straight l g th ks kc rn (kc_lp rn 5 (kz_lp 13 oc)) hd hs se bd bs dk dp ct bo wi sh lf lc mo ah hap) rfl kM_M_straight hS hK hP ⟨Nat.le_of_ble_eq_true rfl, Nat.le_of_ble_eq_true rfl⟩ hl.1 rfl (Nat.le_of_ble_eq_true rfl) ⟨Nat.zero_le _, Nat.zero_le _⟩ dM_keyOf_50 hSS (fun v9 S9 H locs hR hP hSS => ?_)
  obtain ⟨rfl, rfl⟩ := hR
  have hP : va_P g.1 cl_X (mo_V g th ks kc rn (kc_lp rn 5 (kz_lp 13 oc)) hd hs se bd bs dk dp ct bo wi sh lf lc mo ah) H := hP
  refine jt_topi (fun x11 ex11 => ?_)
  refine lv_istore_n (lv' := [(2, .int x11), (1, .int u), (0, .ref (g.2.2 0))]) hx hb dM_keyOf_53 rfl hl (by decide) rfl (fun ls hl => ?_)
  refine lv_iconst (v := 0) hx hb dM_keyOf_54 (by decide) ?_
  refine jt_topi (fun x12 ex12 => ?_)
  refine lv_istore_n (lv' := [(3, .int x12), (2, .int x11), (1, .int u), (0, .ref (g.2.2 0))]) hx hb dM_keyOf_55 rfl hl (by decide) rfl (fun ls hl => ?_)
  have hj132 : ∀ (q : Int32)  (H : Heap) (locs : List Loc) (ls : Array Slot), lv_has ls 8 [(3, .int q), (2, .int x11), (1, .int u), (0, .ref (g.2.2 0))] → va_P g.1 cl_X (mo_V g th ks kc rn (kc_lp rn 5 (kz_lp 13 oc)) hd hs se bd bs dk dp ct bo wi sh lf lc mo ah) H → va_S (mo_fr g) s.heap H locs → (q = k_cat (kc_lp rn 5 (kz_lp 13 oc)) x11 u) → W p l e (headSpec (wd yM_keyOf bM_keyOf 8 (some .int)) (rmD 1 0 0)).room s m ([.ref (g.2.2 0), .int u]).toArray below meth c H locs 0 0 (MQ below (mm_Q g (fun v9 S9 => v9 = some (.int (k_key (kc_lp rn 5 (kz_lp 13 oc)) u)) ∧ ∃ (oc' : Nat → Int32), S9 = (th, ks, kc, rn, oc', hd, hs, se, bd, bs, dk, dp, ct, bo, wi, sh, lf, lc, mo, ah))) ([.ref (g.2.2 0), .int u]).toArray s 0 0 (mo_fr g)) (F0 m 132 ls []) := by
    intro q  H locs ls hl hP hSS hq
    refine lv_iconst (v := 0) hx hb dM_keyOf_132 (by decide) ?_
    refine jt_topi (fun x13 ex13 => ?_)
    refine lv_istore (lv' := [(4, .int x13), (3, .int q), (2, .int x11), (1, .int u), (0, .ref (g.2.2 0))]) hx hb dM_keyOf_133 hl (by decide) rfl (fun ls hl => ?_)
    refine lv_sipush (v := 28561) hx hb dM_keyOf_135 (by decide) ?_
    refine jt_topi (fun x14 ex14 => ?_)
    refine lv_istore (lv' := [(5, .int x14), (4, .int x13), (3, .int q), (2, .int x11), (1, .int u), (0, .ref (g.2.2 0))]) hx hb dM_keyOf_138 hl (by decide) rfl (fun ls hl => ?_)
    refine lv_iload_n hx hb dM_keyOf_140 rfl (lv_at hl 3 rfl) ?_
    refine lv_if_lt (tgt := 154) hx hb dM_keyOf_141 (by decide) (fun hc15 => ?_) (fun hc15 => ?_)
    · refine lv_iconst (v := 4) hx hb dM_keyOf_154 (by decide) ?_
      refine jt_topi (fun x16 ex16 => ?_)
      refine lv_istore (lv' := [(6, .int x16), (5, .int x14), (4, .int x13), (3, .int q), (2, .int x11), (1, .int u), (0, .ref (g.2.2 0))]) hx hb dM_keyOf_155 hl (by decide) rfl (fun ls hl => ?_)
      have hloop : ∀ (n : Nat) (a : Int32) (b : Int32)   (H : Heap) (locs : List Loc) (ls : Array Slot), lv_has ls 8 [(6, .int (nI n)), (4, .int a), (5, .int b), (3, .int q), (0, .ref (g.2.2 0))] → va_P g.1 cl_X (mo_V g th ks kc rn (kc_lp rn 5 (kz_lp 13 oc)) hd hs se bd bs dk dp ct bo wi sh lf lc mo ah) H → va_S (mo_fr g) s.heap H locs → (n ≤ 4) → (∀  (H : Heap) (locs : List Loc) (ls : Array Slot), lv_has ls 8 [(4, .int (kr_out (kc_lp rn 5 (kz_lp 13 oc)) n a b).1), (3, .int q)] → va_P g.1 cl_X (mo_V g th ks kc rn (kc_lp rn 5 (kz_lp 13 oc)) hd hs se bd bs dk dp ct bo wi sh lf lc mo ah) H → va_S (mo_fr g) s.heap H locs → W p l e (headSpec (wd yM_keyOf bM_keyOf 8 (some .int)) (rmD 1 0 0)).room s m ([.ref (g.2.2 0), .int u]).toArray below meth c H locs 0 0 (MQ below (mm_Q g (fun v9 S9 => v9 = some (.int (k_key (kc_lp rn 5 (kz_lp 13 oc)) u)) ∧ ∃ (oc' : Nat → Int32), S9 = (th, ks, kc, rn, oc', hd, hs, se, bd, bs, dk, dp, ct, bo, wi, sh, lf, lc, mo, ah))) ([.ref (g.2.2 0), .int u]).toArray s 0 0 (mo_fr g)) (F0 m 212 ls [])) → W p l e (headSpec (wd yM_keyOf bM_keyOf 8 (some .int)) (rmD 1 0 0)).room s m ([.ref (g.2.2 0), .int u]).toArray below meth c H locs 0 0 (MQ below (mm_Q g (fun v9 S9 => v9 = some (.int (k_key (kc_lp rn 5 (kz_lp 13 oc)) u)) ∧ ∃ (oc' : Nat → Int32), S9 = (th, ks, kc, rn, oc', hd, hs, se, bd, bs, dk, dp, ct, bo, wi, sh, lf, lc, mo, ah))) ([.ref (g.2.2 0), .int u]).toArray s 0 0 (mo_fr g)) (F0 m 157 ls []) := by
        intro n
        induction n with
        | zero =>
          intro a b   H locs ls hl hP hSS hn K
          refine lv_iload hx hb dM_keyOf_157 (lv_at hl 0 rfl) ?_
          refine lv_if_le (tgt := 212) hx hb dM_keyOf_159 (by decide) (fun hc18 => ?_) (fun hc18 => ?_)
          rotate_left
          · first | exact absurd hc18 (by decide) | exact absurd (by decide) hc18
          have hlB := lv_sub hl [1, 3] rfl
          have hPB := hP
          have hSB := hSS
          simp only [kr_out] at K
          exact K  _ _ _ hlB hPB hSB 
        | succ n ih =>
          intro a b   H locs ls hl hP hSS hn K
          refine lv_iload hx hb dM_keyOf_157 (lv_at hl 0 rfl) ?_
          refine lv_if_le (tgt := 212) hx hb dM_keyOf_159 (by decide) (fun hc19 => ?_) (fun hc19 => ?_)
          · exact absurd hc19 (nI_nle (by omega) (by omega))
          · refine lv_bipush (v := 12) hx hb dM_keyOf_162 (by decide) ?_
            refine jt_topi (fun x20 ex20 => ?_)
            refine lv_istore (lv' := [(7, .int x20), (6, .int (nI (n + 1))), (4, .int a), (5, .int b), (3, .int q), (0, .ref (g.2.2 0))]) hx hb dM_keyOf_164 hl (by decide) rfl (fun ls hl => ?_)
            have hloop : ∀ (j : Nat) (a2 : Int32) (b2 : Int32)   (H : Heap) (locs : List Loc) (ls : Array Slot), lv_has ls 8 [(7, .int (nI j + (-1))), (6, .int (nI (n + 1))), (4, .int a2), (5, .int b2), (3, .int q), (0, .ref (g.2.2 0))] → va_P g.1 cl_X (mo_V g th ks kc rn (kc_lp rn 5 (kz_lp 13 oc)) hd hs se bd bs dk dp ct bo wi sh lf lc mo ah) H → va_S (mo_fr g) s.heap H locs → (j ≤ 13) → (∀  (H : Heap) (locs : List Loc) (ls : Array Slot), lv_has ls 8 [(6, .int (nI (n + 1))), (4, .int (kr_in (kc_lp rn 5 (kz_lp 13 oc)) (nI (n + 1)) j a2 b2).1), (5, .int (kr_in (kc_lp rn 5 (kz_lp 13 oc)) (nI (n + 1)) j a2 b2).2), (3, .int q), (0, .ref (g.2.2 0))] → va_P g.1 cl_X (mo_V g th ks kc rn (kc_lp rn 5 (kz_lp 13 oc)) hd hs se bd bs dk dp ct bo wi sh lf lc mo ah) H → va_S (mo_fr g) s.heap H locs → W p l e (headSpec (wd yM_keyOf bM_keyOf 8 (some .int)) (rmD 1 0 0)).room s m ([.ref (g.2.2 0), .int u]).toArray below meth c H locs 0 0 (MQ below (mm_Q g (fun v9 S9 => v9 = some (.int (k_key (kc_lp rn 5 (kz_lp 13 oc)) u)) ∧ ∃ (oc' : Nat → Int32), S9 = (th, ks, kc, rn, oc', hd, hs, se, bd, bs, dk, dp, ct, bo, wi, sh, lf, lc, mo, ah))) ([.ref (g.2.2 0), .int u]).toArray s 0 0 (mo_fr g)) (F0 m 206 ls [])) → W p l e (headSpec (wd yM_keyOf bM_keyOf 8 (some .int)) (rmD 1 0 0)).room s m ([.ref (g.2.2 0), .int u]).toArray below meth c H locs 0 0 (MQ below (mm_Q g (fun v9 S9 => v9 = some (.int (k_key (kc_lp rn 5 (kz_lp 13 oc)) u)) ∧ ∃ (oc' : Nat → Int32), S9 = (th, ks, kc, rn, oc', hd, hs, se, bd, bs, dk, dp, ct, bo, wi, sh, lf, lc, mo, ah))) ([.ref (g.2.2 0), .int u]).toArray s 0 0 (mo_fr g)) (F0 m 166 ls []) := by
              intro j
              induction j with
              | zero =>
                intro a2 b2   H locs ls hl hP hSS hj K
                refine lv_iload hx hb dM_keyOf_166 (lv_at hl 0 rfl) ?_
                refine lv_if_lt (tgt := 206) hx hb dM_keyOf_168 (by decide) (fun hc22 => ?_) (fun hc22 => ?_)
                · have hlB := lv_sub hl [1, 2, 3, 4, 5] rfl
                  have hPB := hP
                  have hSB := hSS
                  simp only [kr_in] at K
                  exact K  _ _ _ hlB hPB hSB 
                · exact absurd (by decide) hc22
              | succ j ih =>
                intro a2 b2   H locs ls hl hP hSS hj K
                have hl : lv_has ls 8 [(7, .int (nI j)), (6, .int (nI (n + 1))), (4, .int a2), (5, .int b2), (3, .int q), (0, .ref (g.2.2 0))] := by rw [nI_dec] at hl; exact hl
                refine lv_iload hx hb dM_keyOf_166 (lv_at hl 0 rfl) ?_
                refine lv_if_lt (tgt := 206) hx hb dM_keyOf_168 (by decide) (fun hc23 => ?_) (fun hc23 => ?_)
                · exact absurd hc23 (nI_pos (by omega))
                · refine lv_aload_n hx hb dM_keyOf_171 rfl (lv_at hl 5 rfl) ?_
                  refine va_get (D := g.1) (ci := 1) (v := .ref (g.2.2 3)) (C := "HandTablesModel") (T := T_M) (N := 20) hx hb hts (fun w hw => wd_in (u_inM w hw)) hown hK hP 0 rfl rfl 4 (by decide) (hts _ (wd_in (gw_mem 461 rfl rfl))) (fun _ h => h) rfl dM_keyOf_172 ?_
                  refine lv_iload hx hb dM_keyOf_175 (lv_at hl 0 rfl) ?_
                  refine va_iald hx hb hK hP 3 0 rfl rfl (vp_in_nI (by omega) (by decide)) dM_keyOf_177 ?_
                  refine lv_iload hx hb dM_keyOf_178 (lv_at hl 1 rfl) ?_
                  refine lv_icmp_ne (tgt := 200) hx hb dM_keyOf_180 (by decide) (fun hc24 => ?_) (fun hc24 => ?_)
                  · refine jv_iinc (a := (-1)) hx hb dM_keyOf_200 hl (k := 0) rfl (by decide) (by decide) (fun x25 ex25 ls hl => ?_)
                    have hl : lv_has ls 8 [(7, .int x25), (6, .int (nI (n + 1))), (4, .int a2), (5, .int b2), (3, .int q), (0, .ref (g.2.2 0))] := hl
                    refine lv_goto (tgt := 166) hx hb dM_keyOf_203 (by decide) ?_
                    have hlB := lv_sub hl [0, 1, 2, 3, 4, 5] rfl
                    have hPB := hP
                    have hSB := hSS
                    subst ex25
                    simp only [kr_in, if_neg hc24] at K
                    exact ih _ _   _ _ _ hlB hPB hSB (by omega) K
                  · refine lv_iload hx hb dM_keyOf_183 (lv_at hl 2 rfl) ?_
                    refine lv_iload hx hb dM_keyOf_185 (lv_at hl 0 rfl) ?_
                    refine lv_iload hx hb dM_keyOf_187 (lv_at hl 3 rfl) ?_
                    refine lv_imul hx hb dM_keyOf_189 ?_
                    refine lv_iadd hx hb dM_keyOf_190 ?_
                    refine jt_topi (fun x26 ex26 => ?_)
                    refine lv_istore (lv' := [(4, .int x26), (7, .int (nI j)), (6, .int (nI (n + 1))), (5, .int b2), (3, .int q), (0, .ref (g.2.2 0))]) hx hb dM_keyOf_191 hl (by decide) rfl (fun ls hl => ?_)
                    refine lv_iload hx hb dM_keyOf_193 (lv_at hl 3 rfl) ?_
                    refine lv_bipush (v := 13) hx hb dM_keyOf_195 (by decide) ?_
                    refine lv_idiv hx hb dM_keyOf_197 (by decide) ?_
                    refine jt_topi (fun x27 ex27 => ?_)
                    refine lv_istore (lv' := [(5, .int x27), (4, .int x26), (7, .int (nI j)), (6, .int (nI (n + 1))), (3, .int q), (0, .ref (g.2.2 0))]) hx hb dM_keyOf_198 hl (by decide) rfl (fun ls hl => ?_)
                    refine jv_iinc (a := (-1)) hx hb dM_keyOf_200 hl (k := 2) rfl (by decide) (by decide) (fun x28 ex28 ls hl => ?_)
                    have hl : lv_has ls 8 [(7, .int x28), (5, .int x27), (4, .int x26), (6, .int (nI (n + 1))), (3, .int q), (0, .ref (g.2.2 0))] := hl
                    refine lv_goto (tgt := 166) hx hb dM_keyOf_203 (by decide) ?_
                    have hlB := lv_sub hl [0, 3, 2, 1, 4, 5] rfl
                    have hPB := hP
                    have hSB := hSS
                    subst ex28 ex27 ex26
                    simp only [kr_in, if_pos hc24] at K
                    exact ih _ _   _ _ _ hlB hPB hSB (by omega) K
            refine hloop 13 a b   _ _ ls (by have h9 := lv_sub hl [0, 1, 2, 3, 4, 5] rfl; subst ex20; exact h9) hP hSS (by decide) (fun  H locs ls hl hP hSS  => ?_)
            clear hloop
            obtain ⟨y29, ey29⟩ : ∃ z, (kr_in (kc_lp rn 5 (kz_lp 13 oc)) (nI (n + 1)) 13 a b).1 = z := ⟨_, rfl⟩
            rw [ey29] at hl
            obtain ⟨y30, ey30⟩ : ∃ z, (kr_in (kc_lp rn 5 (kz_lp 13 oc)) (nI (n + 1)) 13 a b).2 = z := ⟨_, rfl⟩
            rw [ey30] at hl
            refine jv_iinc (a := (-1)) hx hb dM_keyOf_206 hl (k := 0) rfl (by decide) (by decide) (fun x31 ex31 ls hl => ?_)
            have hl : lv_has ls 8 [(6, .int x31), (4, .int y29), (5, .int y30), (3, .int q), (0, .ref (g.2.2 0))] := hl
            refine lv_goto (tgt := 157) hx hb dM_keyOf_209 (by decide) ?_
            rw [nI_dec] at ex31
            have hlB := lv_sub hl [0, 1, 2, 3, 4] rfl
            have hPB := hP
            have hSB := hSS
            subst ex31 ey30 ey29 ex20
            simp only [kr_out] at K
            exact ih _ _   _ _ _ hlB hPB hSB (by omega) K
      refine hloop 4 x13 x14   _ _ ls (by have h9 := lv_sub hl [0, 2, 1, 3, 6] rfl; subst ex16; exact h9) hP hSS (by decide) (fun  H locs ls hl hP hSS  => ?_)
      clear hloop
      obtain ⟨y32, ey32⟩ : ∃ z, (kr_out (kc_lp rn 5 (kz_lp 13 oc)) 4 x13 x14).1 = z := ⟨_, rfl⟩
      rw [ey32] at hl
      refine lv_iload_n hx hb dM_keyOf_212 rfl (lv_at hl 1 rfl) ?_
      refine lv_ldc (v := 371293) hx hb hown (hts _ (wd_in (gw_mem 444 rfl rfl))) dM_keyOf_213 ?_
      refine lv_imul hx hb dM_keyOf_215 ?_
      refine lv_iload hx hb dM_keyOf_216 (lv_at hl 0 rfl) ?_
      refine lv_iadd hx hb dM_keyOf_218 ?_
      exact mm_iret (S := (th, ks, kc, rn, (kc_lp rn 5 (kz_lp 13 oc)), hd, hs, se, bd, bs, dk, dp, ct, bo, wi, sh, lf, lc, mo, ah)) hx hb hr hlk dM_keyOf_219 hP hSS (by exact ⟨by subst ey32 ex16 ex14 ex13 hq ex12 ex11 ex6 ex1; (try simp only [k_key, k_row, if_pos hc15]) <;> rfl, (kc_lp rn 5 (kz_lp 13 oc)), by subst ey32 ex16 ex14 ex13 hq ex12 ex11 ex6 ex1; (try simp only [k_key, k_row, if_pos hc15]) <;> rfl⟩)
    · refine lv_iload_n hx hb dM_keyOf_144 rfl (lv_at hl 2 rfl) ?_
      refine lv_ldc (v := 371293) hx hb hown (hts _ (wd_in (gw_mem 444 rfl rfl))) dM_keyOf_145 ?_
      refine lv_imul hx hb dM_keyOf_147 ?_
      refine lv_iload_n hx hb dM_keyOf_148 rfl (lv_at hl 3 rfl) ?_
      refine lv_iload hx hb dM_keyOf_149 (lv_at hl 0 rfl) ?_
      refine lv_imul hx hb dM_keyOf_151 ?_
      refine lv_iadd hx hb dM_keyOf_152 ?_
      exact mm_iret (S := (th, ks, kc, rn, (kc_lp rn 5 (kz_lp 13 oc)), hd, hs, se, bd, bs, dk, dp, ct, bo, wi, sh, lf, lc, mo, ah)) hx hb hr hlk dM_keyOf_153 hP hSS (by exact ⟨by subst ex14 ex13 hq ex12 ex11 ex6 ex1; (try simp only [k_key, k_row, if_neg hc15]) <;> rfl, (kc_lp rn 5 (kz_lp 13 oc)), by subst ex14 ex13 hq ex12 ex11 ex6 ex1; (try simp only [k_key, k_row, if_neg hc15]) <;> rfl⟩)
  refine lv_iload_n hx hb dM_keyOf_56 rfl (lv_at hl 1 rfl) ?_
  refine lv_if_lt (tgt := 74) hx hb dM_keyOf_57 (by decide) (fun hc33 => ?_) (fun hc33 => ?_)
  · refine lv_aload_n hx hb dM_keyOf_74 rfl (lv_at hl 3 rfl) ?_
    refine lv_iconst (v := 4) hx hb dM_keyOf_75 (by decide) ?_
    refine mm_V (cM_with l g th ks kc rn (kc_lp rn 5 (kz_lp 13 oc)) hd hs se bd bs dk dp ct bo wi sh lf lc mo ah 4 hap) rfl kM_M_with hS hK hP ⟨Nat.le_of_ble_eq_true rfl, Nat.le_of_ble_eq_true rfl⟩ hl.1 rfl (Nat.le_of_ble_eq_true rfl) ⟨Nat.zero_le _, Nat.zero_le _⟩ dM_keyOf_76 hSS (fun v9 S9 H locs hR hP hSS => ?_)
    obtain ⟨rfl, rfl⟩ := hR
    have hP : va_P g.1 cl_X (mo_V g th ks kc rn (kc_lp rn 5 (kz_lp 13 oc)) hd hs se bd bs dk dp ct bo wi sh lf lc mo ah) H := hP
    refine lv_iconst (v := 1) hx hb dM_keyOf_79 (by decide) ?_
    refine lv_icmp_ne (tgt := 89) hx hb dM_keyOf_80 (by decide) (fun hc34 => ?_) (fun hc34 => ?_)
    · refine lv_aload_n hx hb dM_keyOf_89 rfl (lv_at hl 3 rfl) ?_
      refine lv_iconst (v := 3) hx hb dM_keyOf_90 (by decide) ?_
      refine mm_V (cM_with l g th ks kc rn (kc_lp rn 5 (kz_lp 13 oc)) hd hs se bd bs dk dp ct bo wi sh lf lc mo ah 3 hap) rfl kM_M_with hS hK hP ⟨Nat.le_of_ble_eq_true rfl, Nat.le_of_ble_eq_true rfl⟩ hl.1 rfl (Nat.le_of_ble_eq_true rfl) ⟨Nat.zero_le _, Nat.zero_le _⟩ dM_keyOf_91 hSS (fun v9 S9 H locs hR hP hSS => ?_)
      obtain ⟨rfl, rfl⟩ := hR
      have hP : va_P g.1 cl_X (mo_V g th ks kc rn (kc_lp rn 5 (kz_lp 13 oc)) hd hs se bd bs dk dp ct bo wi sh lf lc mo ah) H := hP
      refine lv_iconst (v := 1) hx hb dM_keyOf_94 (by decide) ?_
      refine lv_icmp_ne (tgt := 117) hx hb dM_keyOf_95 (by decide) (fun hc35 => ?_) (fun hc35 => ?_)
      · refine lv_iload_n hx hb dM_keyOf_117 rfl (lv_at hl 2 rfl) ?_
        refine lv_if_eq (tgt := 126) hx hb dM_keyOf_118 (by decide) (fun hc36 => ?_) (fun hc36 => ?_)
        · refine lv_aload_n hx hb dM_keyOf_126 rfl (lv_at hl 3 rfl) ?_
          refine lv_iconst (v := 2) hx hb dM_keyOf_127 (by decide) ?_
          refine mm_V (cM_with l g th ks kc rn (kc_lp rn 5 (kz_lp 13 oc)) hd hs se bd bs dk dp ct bo wi sh lf lc mo ah 2 hap) rfl kM_M_with hS hK hP ⟨Nat.le_of_ble_eq_true rfl, Nat.le_of_ble_eq_true rfl⟩ hl.1 rfl (Nat.le_of_ble_eq_true rfl) ⟨Nat.zero_le _, Nat.zero_le _⟩ dM_keyOf_128 hSS (fun v9 S9 H locs hR hP hSS => ?_)
          obtain ⟨rfl, rfl⟩ := hR
          have hP : va_P g.1 cl_X (mo_V g th ks kc rn (kc_lp rn 5 (kz_lp 13 oc)) hd hs se bd bs dk dp ct bo wi sh lf lc mo ah) H := hP
          refine jt_topi (fun x37 ex37 => ?_)
          refine lv_istore_n (lv' := [(3, .int x37), (2, .int x11), (1, .int u), (0, .ref (g.2.2 0))]) hx hb dM_keyOf_131 rfl hl (by decide) rfl (fun ls hl => ?_)
          have hlB := lv_sub hl [0, 1, 2, 3] rfl
          have hPB := hP
          have hSB := hSS
          subst ex37
          exact hj132 _  _ _ _ hlB hPB hSB (by simp only [k_cat, if_pos hc33, if_neg hc34, if_neg hc35, if_pos hc36])
        · refine lv_iconst (v := 5) hx hb dM_keyOf_121 (by decide) ?_
          refine jt_topi (fun x38 ex38 => ?_)
          refine lv_istore_n (lv' := [(3, .int x38), (2, .int x11), (1, .int u), (0, .ref (g.2.2 0))]) hx hb dM_keyOf_122 rfl hl (by decide) rfl (fun ls hl => ?_)
          refine lv_goto (tgt := 132) hx hb dM_keyOf_123 (by decide) ?_
          have hlB := lv_sub hl [0, 1, 2, 3] rfl
          have hPB := hP
          have hSB := hSS
          subst ex38
          exact hj132 _  _ _ _ hlB hPB hSB (by simp only [k_cat, if_pos hc33, if_neg hc34, if_neg hc35, if_neg hc36])
      · refine lv_aload_n hx hb dM_keyOf_98 rfl (lv_at hl 3 rfl) ?_
        refine lv_iconst (v := 2) hx hb dM_keyOf_99 (by decide) ?_
        refine mm_V (cM_with l g th ks kc rn (kc_lp rn 5 (kz_lp 13 oc)) hd hs se bd bs dk dp ct bo wi sh lf lc mo ah 2 hap) rfl kM_M_with hS hK hP ⟨Nat.le_of_ble_eq_true rfl, Nat.le_of_ble_eq_true rfl⟩ hl.1 rfl (Nat.le_of_ble_eq_true rfl) ⟨Nat.zero_le _, Nat.zero_le _⟩ dM_keyOf_100 hSS (fun v9 S9 H locs hR hP hSS => ?_)
        obtain ⟨rfl, rfl⟩ := hR
        have hP : va_P g.1 cl_X (mo_V g th ks kc rn (kc_lp rn 5 (kz_lp 13 oc)) hd hs se bd bs dk dp ct bo wi sh lf lc mo ah) H := hP
        refine lv_iconst (v := 1) hx hb dM_keyOf_103 (by decide) ?_
        refine lv_icmp_ne (tgt := 112) hx hb dM_keyOf_104 (by decide) (fun hc39 => ?_) (fun hc39 => ?_)
        · refine lv_iconst (v := 3) hx hb dM_keyOf_112 (by decide) ?_
          refine jt_topi (fun x40 ex40 => ?_)
          refine lv_istore_n (lv' := [(3, .int x40), (2, .int x11), (1, .int u), (0, .ref (g.2.2 0))]) hx hb dM_keyOf_113 rfl hl (by decide) rfl (fun ls hl => ?_)
          refine lv_goto (tgt := 132) hx hb dM_keyOf_114 (by decide) ?_
          have hlB := lv_sub hl [0, 1, 2, 3] rfl
          have hPB := hP
          have hSB := hSS
          subst ex40
          exact hj132 _  _ _ _ hlB hPB hSB (by simp only [k_cat, if_pos hc33, if_neg hc34, if_pos hc35, if_neg hc39])
        · refine lv_bipush (v := 6) hx hb dM_keyOf_107 (by decide) ?_
          refine lv_goto (tgt := 113) hx hb dM_keyOf_109 (by decide) ?_
          refine jt_topi (fun x41 ex41 => ?_)
          refine lv_istore_n (lv' := [(3, .int x41), (2, .int x11), (1, .int u), (0, .ref (g.2.2 0))]) hx hb dM_keyOf_113 rfl hl (by decide) rfl (fun ls hl => ?_)
          refine lv_goto (tgt := 132) hx hb dM_keyOf_114 (by decide) ?_
          have hlB := lv_sub hl [0, 1, 2, 3] rfl
          have hPB := hP
          have hSB := hSS
          subst ex41
          exact hj132 _  _ _ _ hlB hPB hSB (by simp only [k_cat, if_pos hc33, if_neg hc34, if_pos hc35, if_pos hc39])
    · refine lv_bipush (v := 7) hx hb dM_keyOf_83 (by decide) ?_
      refine jt_topi (fun x42 ex42 => ?_)
      refine lv_istore_n (lv' := [(3, .int x42), (2, .int x11), (1, .int u), (0, .ref (g.2.2 0))]) hx hb dM_keyOf_85 rfl hl (by decide) rfl (fun ls hl => ?_)
      refine lv_goto (tgt := 132) hx hb dM_keyOf_86 (by decide) ?_
      have hlB := lv_sub hl [0, 1, 2, 3] rfl
      have hPB := hP
      have hSB := hSS
      subst ex42
      exact hj132 _  _ _ _ hlB hPB hSB (by simp only [k_cat, if_pos hc33, if_pos hc34])
  · refine lv_iload_n hx hb dM_keyOf_60 rfl (lv_at hl 2 rfl) ?_
    refine lv_if_eq (tgt := 69) hx hb dM_keyOf_61 (by decide) (fun hc43 => ?_) (fun hc43 => ?_)
    · refine lv_iconst (v := 4) hx hb dM_keyOf_69 (by decide) ?_
      refine jt_topi (fun x44 ex44 => ?_)
      refine lv_istore_n (lv' := [(3, .int x44), (2, .int x11), (1, .int u), (0, .ref (g.2.2 0))]) hx hb dM_keyOf_70 rfl hl (by decide) rfl (fun ls hl => ?_)
      refine lv_goto (tgt := 132) hx hb dM_keyOf_71 (by decide) ?_
      have hlB := lv_sub hl [0, 1, 2, 3] rfl
      have hPB := hP
      have hSB := hSS
      subst ex44
      exact hj132 _  _ _ _ hlB hPB hSB (by simp only [k_cat, if_neg hc33, if_pos hc43])
    · refine lv_bipush (v := 8) hx hb dM_keyOf_64 (by decide) ?_
      refine lv_goto (tgt := 70) hx hb dM_keyOf_66 (by decide) ?_
      refine jt_topi (fun x45 ex45 => ?_)
      refine lv_istore_n (lv' := [(3, .int x45), (2, .int x11), (1, .int u), (0, .ref (g.2.2 0))]) hx hb dM_keyOf_70 rfl hl (by decide) rfl (fun ls hl => ?_)
      refine lv_goto (tgt := 132) hx hb dM_keyOf_71 (by decide) ?_
      have hlB := lv_sub hl [0, 1, 2, 3] rfl
      have hPB := hP
      have hSB := hSS
      subst ex45
      exact hj132 _  _ _ _ hlB hPB hSB (by simp only [k_cat, if_neg hc33, if_neg hc43])
set_option maxHeartbeats 4000000 in
set_option maxRecDepth 100000 in
theorem cM_below (l : Launch) (g : mo_E) (th : Int32) (ks : Nat → Int32) (kc : Int32) (rn : Nat → Int32) (oc : Nat → Int32) (hd : Nat → Int32) (hs : Int32) (se : Nat → Int32) (bd : Nat → Int32) (bs : Int32) (dk : Nat → Int32) (dp : Int32) (ct : Int32) (bo : Int32) (wi : Nat → Int32) (sh : Nat → Int32) (lf : Nat → Int32) (lc : Int32) (mo : Int32) (ah : Int32) (k : Int32)  (hap : mo_ap g)  : mm_M l yM_below bM_below 5 (some .int) 0 [.ref (g.2.2 0), .int k] g (th, ks, kc, rn, oc, hd, hs, se, bd, bs, dk, dp, ct, bo, wi, sh, lf, lc, mo, ah) (fun v9 S9 => v9 = some (.int (k_below ks k)) ∧ S9 = (th, ks, kc, rn, oc, hd, hs, se, bd, bs, dk, dp, ct, bo, wi, sh, lf, lc, mo, ah)) := by
  refine Met.ofW (cc := bM_below) (maxL := 5) (ret := (some .int)) (by decide) rfl ?_
  intro p e s m args below meth c s₁ BB hml hv
  obtain ⟨rfl, hB⟩ := hv
  have hx := BB.exec
  have hb := BB.bytes
  have hr := BB.returns
  have hlk := BB.notSynchronized
  have hts := atoms_spec (ws := wd yM_below bM_below 5 (some .int)) BB.pre
  have hown : s.vm.findClass "HandTablesModel" = some m.cls := findClass_of_methodNamed BB.named
  have hS : CallFix p m c bM_below 5 s _ (wd yM_below bM_below 5 (some .int)) "HandTablesModel" := ⟨hx, hb, hml, hown, hts⟩
  obtain ⟨hP, hK⟩ := hB
  have hP : va_P g.1 cl_X (mo_V g th ks kc rn oc hd hs se bd bs dk dp ct bo wi sh lf lc mo ah) s.heap := hP
  have hSS : va_S (mo_fr g) s.heap s.heap [] := va_S.rf
  have hl := lv_entry ([.ref (g.2.2 0), .int k]) (n := 5) (Nat.le_of_ble_eq_true rfl)
  rw [lg_entry_eq]
  generalize (lg_sl ([.ref (g.2.2 0), .int k]) ++ List.replicate (5 - (lg_sl ([.ref (g.2.2 0), .int k])).length) Slot.unset).toArray = ls at hl ⊢
  have hl : lv_has ls 5 [(0, .ref (g.2.2 0)), (1, .int k)] := hl
  obtain ⟨H, eH⟩ : ∃ H, s.heap = H := ⟨_, rfl⟩
  obtain ⟨locs, eL⟩ : ∃ L, ([] : List Loc) = L := ⟨_, rfl⟩
  have hP : va_P g.1 cl_X (mo_V g th ks kc rn oc hd hs se bd bs dk dp ct bo wi sh lf lc mo ah) H := by rw [← eH]; exact hP
  have hSS : va_S (mo_fr g) s.heap H locs := by rw [← eH, ← eL]; exact hSS
  refine mm_go eH eL ?_
  clear eH eL
  refine lv_iconst (v := 0) hx hb dM_below_0 (by decide) ?_
  refine jt_topi (fun x1 ex1 => ?_)
  refine lv_istore_n (lv' := [(2, .int x1), (0, .ref (g.2.2 0)), (1, .int k)]) hx hb dM_below_1 rfl hl (by decide) rfl (fun ls hl => ?_)
  refine lv_sipush (v := 7462) hx hb dM_below_2 (by decide) ?_
  refine jt_topi (fun x2 ex2 => ?_)
  refine lv_istore_n (lv' := [(3, .int x2), (2, .int x1), (0, .ref (g.2.2 0)), (1, .int k)]) hx hb dM_below_5 rfl hl (by decide) rfl (fun ls hl => ?_)
  have hloop : ∀ (n : Nat) (a : Nat) (c9 : Nat)   (H : Heap) (locs : List Loc) (ls : Array Slot), lv_has ls 5 [(2, .int (nI a)), (3, .int (nI c9)), (1, .int k), (0, .ref (g.2.2 0))] → va_P g.1 cl_X (mo_V g th ks kc rn oc hd hs se bd bs dk dp ct bo wi sh lf lc mo ah) H → va_S (mo_fr g) s.heap H locs → (c9 - a ≤ n) → (a ≤ c9) → (c9 ≤ 7462) → (∀  (H : Heap) (locs : List Loc) (ls : Array Slot), lv_has ls 5 [(2, .int (nI (kb_lp ks k n a c9)))] → va_P g.1 cl_X (mo_V g th ks kc rn oc hd hs se bd bs dk dp ct bo wi sh lf lc mo ah) H → va_S (mo_fr g) s.heap H locs → W p l e (headSpec (wd yM_below bM_below 5 (some .int)) (rmD 0 0 0)).room s m ([.ref (g.2.2 0), .int k]).toArray below meth c H locs 0 0 (MQ below (mm_Q g (fun v9 S9 => v9 = some (.int (k_below ks k)) ∧ S9 = (th, ks, kc, rn, oc, hd, hs, se, bd, bs, dk, dp, ct, bo, wi, sh, lf, lc, mo, ah))) ([.ref (g.2.2 0), .int k]).toArray s 0 0 (mo_fr g)) (F0 m 43 ls [])) → W p l e (headSpec (wd yM_below bM_below 5 (some .int)) (rmD 0 0 0)).room s m ([.ref (g.2.2 0), .int k]).toArray below meth c H locs 0 0 (MQ below (mm_Q g (fun v9 S9 => v9 = some (.int (k_below ks k)) ∧ S9 = (th, ks, kc, rn, oc, hd, hs, se, bd, bs, dk, dp, ct, bo, wi, sh, lf, lc, mo, ah))) ([.ref (g.2.2 0), .int k]).toArray s 0 0 (mo_fr g)) (F0 m 6 ls []) := by
    intro n
    induction n with
    | zero =>
      intro a c9   H locs ls hl hP hSS hn hac hc K
      refine lv_iload_n hx hb dM_below_6 rfl (lv_at hl 0 rfl) ?_
      refine lv_iload_n hx hb dM_below_7 rfl (lv_at hl 1 rfl) ?_
      refine lv_icmp_ge (tgt := 43) hx hb dM_below_8 (by decide) (fun hc4 => ?_) (fun hc4 => ?_)
      · have hlB := lv_sub hl [0] rfl
        have hPB := hP
        have hSB := hSS
        simp only [kb_lp] at K
        exact K  _ _ _ hlB hPB hSB 
      · exact absurd (nI_le (by omega) (by omega)) hc4
    | succ n ih =>
      intro a c9   H locs ls hl hP hSS hn hac hc K
      refine lv_iload_n hx hb dM_below_6 rfl (lv_at hl 0 rfl) ?_
      refine lv_iload_n hx hb dM_below_7 rfl (lv_at hl 1 rfl) ?_
      refine lv_icmp_ge (tgt := 43) hx hb dM_below_8 (by decide) (fun hc5 => ?_) (fun hc5 => ?_)
      · have hlB := lv_sub hl [0] rfl
        have hPB := hP
        have hSB := hSS
        simp only [kb_lp, if_pos hc5] at K
        exact K  _ _ _ hlB hPB hSB 
      · refine lv_iload_n hx hb dM_below_11 rfl (lv_at hl 0 rfl) ?_
        refine lv_iload_n hx hb dM_below_12 rfl (lv_at hl 1 rfl) ?_
        refine lv_iadd hx hb dM_below_13 ?_
        refine lv_iconst (v := 2) hx hb dM_below_14 (by decide) ?_
        refine lv_idiv hx hb dM_below_15 (by decide) ?_
        refine jt_topi (fun x6 ex6 => ?_)
        refine lv_istore (lv' := [(4, .int x6), (2, .int (nI a)), (3, .int (nI c9)), (1, .int k), (0, .ref (g.2.2 0))]) hx hb dM_below_16 hl (by decide) rfl (fun ls hl => ?_)
        refine lv_aload_n hx hb dM_below_18 rfl (lv_at hl 4 rfl) ?_
        refine va_get (D := g.1) (ci := 1) (v := .ref (g.2.2 1)) (C := "HandTablesModel") (T := T_M) (N := 20) hx hb hts (fun w hw => wd_in (u_inM w hw)) hown hK hP 0 rfl rfl 1 (by decide) (hts _ (wd_in (gw_mem 458 rfl rfl))) (fun _ h => h) rfl dM_below_19 ?_
        refine lv_iload hx hb dM_below_22 (lv_at hl 0 rfl) ?_
        refine va_iald hx hb hK hP 1 0 rfl rfl (by have hlt := kb_lt hc5 (by omega); subst_vars; rw [kb_mid (by omega) (by omega)]; exact vp_in_nI (by omega) (by decide)) dM_below_24 ?_
        refine lv_iload_n hx hb dM_below_25 rfl (lv_at hl 3 rfl) ?_
        refine lv_icmp_ge (tgt := 37) hx hb dM_below_26 (by decide) (fun hc7 => ?_) (fun hc7 => ?_)
        · refine lv_iload hx hb dM_below_37 (lv_at hl 0 rfl) ?_
          refine jt_topi (fun x8 ex8 => ?_)
          refine lv_istore_n (lv' := [(3, .int x8), (4, .int x6), (2, .int (nI a)), (1, .int k), (0, .ref (g.2.2 0))]) hx hb dM_below_39 rfl hl (by decide) rfl (fun ls hl => ?_)
          refine lv_goto (tgt := 6) hx hb dM_below_40 (by decide) ?_
          have hlt := kb_lt hc5 (by omega)
          rw [kb_mid (by omega) (by omega)] at ex6
          have hlB := lv_sub hl [2, 0, 3, 4] rfl
          have hPB := hP
          have hSB := hSS
          subst ex8 ex6
          simp only [kb_lp, if_neg hc5, if_pos hc7] at K
          exact ih _ _   _ _ _ hlB hPB hSB (by omega) (by omega) (by omega) K
        · refine lv_iload hx hb dM_below_29 (lv_at hl 0 rfl) ?_
          refine lv_iconst (v := 1) hx hb dM_below_31 (by decide) ?_
          refine lv_iadd hx hb dM_below_32 ?_
          refine jt_topi (fun x9 ex9 => ?_)
          refine lv_istore_n (lv' := [(2, .int x9), (4, .int x6), (3, .int (nI c9)), (1, .int k), (0, .ref (g.2.2 0))]) hx hb dM_below_33 rfl hl (by decide) rfl (fun ls hl => ?_)
          refine lv_goto (tgt := 40) hx hb dM_below_34 (by decide) ?_
          refine lv_goto (tgt := 6) hx hb dM_below_40 (by decide) ?_
          have hlt := kb_lt hc5 (by omega)
          rw [kb_mid (by omega) (by omega)] at ex6
          rw [← ex6, nI_1] at ex9
          have hlB := lv_sub hl [0, 2, 3, 4] rfl
          have hPB := hP
          have hSB := hSS
          subst ex9 ex6
          simp only [kb_lp, if_neg hc5, if_neg hc7] at K
          exact ih _ _   _ _ _ hlB hPB hSB (by omega) (by omega) (by omega) K
  refine hloop 7462 0 7462   _ _ ls (by have h9 := lv_sub hl [1, 0, 3, 2] rfl; subst ex1; subst ex2; exact h9) hP hSS (by decide) (by decide) (by decide) (fun  H locs ls hl hP hSS  => ?_)
  clear hloop
  obtain ⟨y10, ey10⟩ : ∃ z, (nI (kb_lp ks k 7462 0 7462)) = z := ⟨_, rfl⟩
  rw [ey10] at hl
  refine lv_iload_n hx hb dM_below_43 rfl (lv_at hl 0 rfl) ?_
  exact mm_iret (S := (th, ks, kc, rn, oc, hd, hs, se, bd, bs, dk, dp, ct, bo, wi, sh, lf, lc, mo, ah)) hx hb hr hlk dM_below_44 hP hSS (by exact ⟨by subst ey10 ex2 ex1; (try simp only [k_below]) <;> rfl, by subst ey10 ex2 ex1; (try simp only [k_below]) <;> rfl⟩)
set_option maxHeartbeats 4000000 in
set_option maxRecDepth 100000 in
theorem cM_takeCards (l : Launch) (g : mo_E) (th : Int32) (ks : Nat → Int32) (kc : Int32) (rn : Nat → Int32) (oc : Nat → Int32) (hd : Nat → Int32) (hs : Int32) (se : Nat → Int32) (bd : Nat → Int32) (bs : Int32) (dk : Nat → Int32) (dp : Int32) (ct : Int32) (bo : Int32) (wi : Nat → Int32) (sh : Nat → Int32) (lf : Nat → Int32) (lc : Int32) (mo : Int32) (ah : Int32) (x : Int64)  (hap : mo_ap g) (hx7 : kt_c x 52 ≤ 7) : mm_M l yM_takeCards bM_takeCards 4 none 0 [.ref (g.2.2 0), .long x] g (th, ks, kc, rn, oc, hd, hs, se, bd, bs, dk, dp, ct, bo, wi, sh, lf, lc, mo, ah) (fun v9 S9 => v9 = none ∧ S9 = (th, ks, kc, rn, oc, (k_take x hd).2, (k_take x hd).1, se, bd, bs, dk, dp, ct, bo, wi, sh, lf, lc, mo, ah)) := by
  refine Met.ofW (cc := bM_takeCards) (maxL := 4) (ret := none) (by decide) rfl ?_
  intro p e s m args below meth c s₁ BB hml hv
  obtain ⟨rfl, hB⟩ := hv
  have hx := BB.exec
  have hb := BB.bytes
  have hr := BB.returns
  have hlk := BB.notSynchronized
  have hts := atoms_spec (ws := wd yM_takeCards bM_takeCards 4 none) BB.pre
  have hown : s.vm.findClass "HandTablesModel" = some m.cls := findClass_of_methodNamed BB.named
  have hS : CallFix p m c bM_takeCards 4 s _ (wd yM_takeCards bM_takeCards 4 none) "HandTablesModel" := ⟨hx, hb, hml, hown, hts⟩
  obtain ⟨hP, hK⟩ := hB
  have hP : va_P g.1 cl_X (mo_V g th ks kc rn oc hd hs se bd bs dk dp ct bo wi sh lf lc mo ah) s.heap := hP
  have hSS : va_S (mo_fr g) s.heap s.heap [] := va_S.rf
  have hl := lv_entry ([.ref (g.2.2 0), .long x]) (n := 4) (Nat.le_of_ble_eq_true rfl)
  rw [lg_entry_eq]
  generalize (lg_sl ([.ref (g.2.2 0), .long x]) ++ List.replicate (4 - (lg_sl ([.ref (g.2.2 0), .long x])).length) Slot.unset).toArray = ls at hl ⊢
  have hl : lv_has ls 4 [(0, .ref (g.2.2 0)), (1, .long x)] := hl
  obtain ⟨H, eH⟩ : ∃ H, s.heap = H := ⟨_, rfl⟩
  obtain ⟨locs, eL⟩ : ∃ L, ([] : List Loc) = L := ⟨_, rfl⟩
  have hP : va_P g.1 cl_X (mo_V g th ks kc rn oc hd hs se bd bs dk dp ct bo wi sh lf lc mo ah) H := by rw [← eH]; exact hP
  have hSS : va_S (mo_fr g) s.heap H locs := by rw [← eH, ← eL]; exact hSS
  refine mm_go eH eL ?_
  clear eH eL
  refine lv_aload_n hx hb dM_takeCards_0 rfl (lv_at hl 0 rfl) ?_
  refine lv_iconst (v := 0) hx hb dM_takeCards_1 (by decide) ?_
  refine va_put (D := g.1) (ci := 1) (v := .int 0) (ty := .int) (C := "HandTablesModel") (T := T_M) (N := 20) hx hb hts (fun w hw => wd_in (u_inM w hw)) tf_M tf_M_ok n_M hown hK hP (mo_D hap) hSS 0 rfl rfl 6 (by decide) (hts _ (wd_in (gw_mem 463 rfl rfl))) (fun _ h => h) rfl (by decide +kernel) rfl rfl (Nat.le_of_ble_eq_true rfl) dM_takeCards_2 (fun H locs hP _ hSS => ?_)
  have hP : va_P g.1 cl_X (mo_V g th ks kc rn oc hd 0 se bd bs dk dp ct bo wi sh lf lc mo ah) H := hP
  refine lv_iconst (v := 0) hx hb dM_takeCards_5 (by decide) ?_
  refine jt_topi (fun x1 ex1 => ?_)
  refine lv_istore_n (lv' := [(3, .int x1), (0, .ref (g.2.2 0)), (1, .long x)]) hx hb dM_takeCards_6 rfl hl (by decide) rfl (fun ls hl => ?_)
  have hloop : ∀ (n : Nat)   (whd2 : Nat → Int32) (whs2 : Int32) (H : Heap) (locs : List Loc) (ls : Array Slot), lv_has ls 4 [(3, .int (nI (52 - n))), (1, .long x), (0, .ref (g.2.2 0))] → va_P g.1 cl_X (mo_V g th ks kc rn oc whd2 whs2 se bd bs dk dp ct bo wi sh lf lc mo ah) H → va_S (mo_fr g) s.heap H locs → (n ≤ 52) → (∃ j, whs2 = nI j ∧ j + kt_c x n ≤ 7) → (∀  (H : Heap) (locs : List Loc) (ls : Array Slot), lv_has ls 4 [(0, .ref (g.2.2 0))] → va_P g.1 cl_X (mo_V g th ks kc rn oc ((kt_lp x n whs2 whd2).2) ((kt_lp x n whs2 whd2).1) se bd bs dk dp ct bo wi sh lf lc mo ah) H → va_S (mo_fr g) s.heap H locs → W p l e (headSpec (wd yM_takeCards bM_takeCards 4 none) (rmD 0 0 0)).room s m ([.ref (g.2.2 0), .long x]).toArray below meth c H locs 0 0 (MQ below (mm_Q g (fun v9 S9 => v9 = none ∧ S9 = (th, ks, kc, rn, oc, (k_take x hd).2, (k_take x hd).1, se, bd, bs, dk, dp, ct, bo, wi, sh, lf, lc, mo, ah))) ([.ref (g.2.2 0), .long x]).toArray s 0 0 (mo_fr g)) (F0 m 49 ls [])) → W p l e (headSpec (wd yM_takeCards bM_takeCards 4 none) (rmD 0 0 0)).room s m ([.ref (g.2.2 0), .long x]).toArray below meth c H locs 0 0 (MQ below (mm_Q g (fun v9 S9 => v9 = none ∧ S9 = (th, ks, kc, rn, oc, (k_take x hd).2, (k_take x hd).1, se, bd, bs, dk, dp, ct, bo, wi, sh, lf, lc, mo, ah))) ([.ref (g.2.2 0), .long x]).toArray s 0 0 (mo_fr g)) (F0 m 7 ls []) := by
    intro n
    induction n with
    | zero =>
      intro   whd2 whs2 H locs ls hl hP hSS hn hz K
      refine lv_iload_n hx hb dM_takeCards_7 rfl (lv_at hl 0 rfl) ?_
      refine lv_bipush (v := 52) hx hb dM_takeCards_8 (by decide) ?_
      refine lv_icmp_ge (tgt := 49) hx hb dM_takeCards_10 (by decide) (fun hc3 => ?_) (fun hc3 => ?_)
      · have hlB := lv_sub hl [2] rfl
        have hPB := hP
        have hSB := hSS
        simp only [kt_lp] at K
        exact K  _ _ _ hlB hPB hSB 
      · exact absurd (by decide) hc3
    | succ n ih =>
      intro   whd2 whs2 H locs ls hl hP hSS hn hz K
      obtain ⟨j, hj, hj2⟩ := hz
      refine lv_iload_n hx hb dM_takeCards_7 rfl (lv_at hl 0 rfl) ?_
      refine lv_bipush (v := 52) hx hb dM_takeCards_8 (by decide) ?_
      refine lv_icmp_ge (tgt := 49) hx hb dM_takeCards_10 (by decide) (fun hc4 => ?_) (fun hc4 => ?_)
      · exact absurd hc4 (nI_ge (b := 52) (by omega) (by decide))
      · refine lv_lload_n hx hb dM_takeCards_13 rfl (lv_at hl 1 rfl) ?_
        refine lv_iload_n hx hb dM_takeCards_14 rfl (lv_at hl 0 rfl) ?_
        refine jv_lshr hx hb dM_takeCards_15 ?_
        refine lv_lconst (v := 1) hx hb dM_takeCards_16 (by decide) ?_
        refine lv_land hx hb dM_takeCards_17 ?_
        refine lv_lconst (v := 1) hx hb dM_takeCards_18 (by decide) ?_
        refine jv_lcne (tgt := 43) hx hb dM_takeCards_19 dM_takeCards_20 (by decide) (fun hc5 => ?_) (fun hc5 => ?_)
        · refine jv_iinc (a := 1) hx hb dM_takeCards_43 hl (k := 0) rfl (by decide) (by decide) (fun x6 ex6 ls hl => ?_)
          have hl : lv_has ls 4 [(3, .int x6), (1, .long x), (0, .ref (g.2.2 0))] := hl
          refine lv_goto (tgt := 7) hx hb dM_takeCards_46 (by decide) ?_
          rw [nI_up (by omega)] at ex6
          have hlB := lv_sub hl [0, 1, 2] rfl
          have hPB := hP
          have hSB := hSS
          subst ex6
          simp only [kt_lp, if_neg hc5] at K
          exact ih   _ _ _ _ _ hlB hPB hSB (by omega) ⟨j, hj, by simp only [kt_c, if_neg hc5] at hj2; omega⟩ K
        · refine lv_aload_n hx hb dM_takeCards_23 rfl (lv_at hl 2 rfl) ?_
          refine va_get (D := g.1) (ci := 1) (v := .ref (g.2.2 4)) (C := "HandTablesModel") (T := T_M) (N := 20) hx hb hts (fun w hw => wd_in (u_inM w hw)) hown hK hP 0 rfl rfl 5 (by decide) (hts _ (wd_in (gw_mem 462 rfl rfl))) (fun _ h => h) rfl dM_takeCards_24 ?_
          refine lv_aload_n hx hb dM_takeCards_27 rfl (lv_at hl 2 rfl) ?_
          refine va_get (D := g.1) (ci := 1) (v := .int whs2) (C := "HandTablesModel") (T := T_M) (N := 20) hx hb hts (fun w hw => wd_in (u_inM w hw)) hown hK hP 0 rfl rfl 6 (by decide) (hts _ (wd_in (gw_mem 463 rfl rfl))) (fun _ h => h) rfl dM_takeCards_28 ?_
          refine lv_iload_n hx hb dM_takeCards_31 rfl (lv_at hl 0 rfl) ?_
          refine va_iast (x := (nI (52 - (n + 1)))) hx hb hK hP (mo_D hap) hSS 4 0 rfl rfl (by rw [hj]; simp only [kt_c, if_pos hc5] at hj2; exact vp_in_nI (by omega) (by decide)) dM_takeCards_32 (fun H locs hP _ hSS => ?_)
          have hP : va_P g.1 cl_X (mo_V g th ks kc rn oc (upd whd2 (whs2 : Int32).toNatClampNeg (nI (52 - (n + 1)))) whs2 se bd bs dk dp ct bo wi sh lf lc mo ah) H := hP
          refine lv_aload_n hx hb dM_takeCards_33 rfl (lv_at hl 2 rfl) ?_
          refine lv_dup hx hb dM_takeCards_34 rfl ?_
          refine va_get (D := g.1) (ci := 1) (v := .int whs2) (C := "HandTablesModel") (T := T_M) (N := 20) hx hb hts (fun w hw => wd_in (u_inM w hw)) hown hK hP 0 rfl rfl 6 (by decide) (hts _ (wd_in (gw_mem 463 rfl rfl))) (fun _ h => h) rfl dM_takeCards_35 ?_
          refine lv_iconst (v := 1) hx hb dM_takeCards_38 (by decide) ?_
          refine lv_iadd hx hb dM_takeCards_39 ?_
          refine va_put (D := g.1) (ci := 1) (v := .int (whs2 + 1)) (ty := .int) (C := "HandTablesModel") (T := T_M) (N := 20) hx hb hts (fun w hw => wd_in (u_inM w hw)) tf_M tf_M_ok n_M hown hK hP (mo_D hap) hSS 0 rfl rfl 6 (by decide) (hts _ (wd_in (gw_mem 463 rfl rfl))) (fun _ h => h) rfl (by decide +kernel) rfl rfl (Nat.le_of_ble_eq_true rfl) dM_takeCards_40 (fun H locs hP _ hSS => ?_)
          have hP : va_P g.1 cl_X (mo_V g th ks kc rn oc (upd whd2 (whs2 : Int32).toNatClampNeg (nI (52 - (n + 1)))) (whs2 + 1) se bd bs dk dp ct bo wi sh lf lc mo ah) H := hP
          refine jv_iinc (a := 1) hx hb dM_takeCards_43 hl (k := 0) rfl (by decide) (by decide) (fun x7 ex7 ls hl => ?_)
          have hl : lv_has ls 4 [(3, .int x7), (1, .long x), (0, .ref (g.2.2 0))] := hl
          refine lv_goto (tgt := 7) hx hb dM_takeCards_46 (by decide) ?_
          rw [nI_up (by omega)] at ex7
          have hlB := lv_sub hl [0, 1, 2] rfl
          have hPB := hP
          have hSB := hSS
          subst ex7
          simp only [kt_lp, if_pos hc5] at K
          exact ih   _ _ _ _ _ hlB hPB hSB (by omega) ⟨j + 1, by rw [hj, nI_1], by simp only [kt_c, if_pos hc5] at hj2; omega⟩ K
  refine hloop 52   hd 0 _ _ ls (by have h9 := lv_sub hl [0, 2, 1] rfl; subst ex1; exact h9) hP hSS (by decide) ⟨0, rfl, by omega⟩ (fun  H locs ls hl hP hSS  => ?_)
  clear hloop
  exact mm_vret (S := (th, ks, kc, rn, oc, (kt_lp x 52 0 hd).2, (kt_lp x 52 0 hd).1, se, bd, bs, dk, dp, ct, bo, wi, sh, lf, lc, mo, ah)) hx hb hr hlk dM_takeCards_49 hP hSS (by exact ⟨by subst ex1; (try simp only []) <;> rfl, by subst ex1; (try simp only []) <;> rfl⟩)
