/-! the law's sixteen wrappers -/
set_option maxRecDepth 20000 in
theorem kL_A_value : cv_W "HandTablesLaw" 7 "HandTables" yA_value bA_value 3 (some .int) 1 := ⟨(gw_mem 89 rfl rfl), (gw_mem 90 rfl rfl), (gw_mem 91 rfl rfl), (gw_mem 27 rfl rfl), (gw_mem 92 rfl rfl), by decide +kernel⟩
set_option maxRecDepth 20000 in
theorem kL_A_category : cv_W "HandTablesLaw" 15 "HandTables" yA_category bA_category 3 (some .int) 1 := ⟨(gw_mem 203 rfl rfl), (gw_mem 204 rfl rfl), (gw_mem 205 rfl rfl), (gw_mem 27 rfl rfl), (gw_mem 206 rfl rfl), by decide +kernel⟩
set_option maxRecDepth 20000 in
theorem kL_A_best : cv_W "HandTablesLaw" 18 "HandTables" yA_best bA_best 7 (some .long) 1 := ⟨(gw_mem 213 rfl rfl), (gw_mem 214 rfl rfl), (gw_mem 215 rfl rfl), (gw_mem 27 rfl rfl), (gw_mem 216 rfl rfl), by decide +kernel⟩
set_option maxRecDepth 20000 in
theorem kL_A_worth : cv_W "HandTablesLaw" 22 "HandTables" yA_worth bA_worth 3 (some .int) 1 := ⟨(gw_mem 223 rfl rfl), (gw_mem 224 rfl rfl), (gw_mem 225 rfl rfl), (gw_mem 27 rfl rfl), (gw_mem 226 rfl rfl), by decide +kernel⟩
set_option maxRecDepth 20000 in
theorem kL_A_sets : cv_W "HandTablesLaw" 26 "HandTables" yA_sets bA_sets 2 (some .int) 1 := ⟨(gw_mem 255 rfl rfl), (gw_mem 256 rfl rfl), (gw_mem 257 rfl rfl), (gw_mem 27 rfl rfl), (gw_mem 258 rfl rfl), by decide +kernel⟩
set_option maxRecDepth 20000 in
theorem kL_A_first : cv_W "HandTablesLaw" 29 "HandTables" yA_first bA_first 2 (some .int) 1 := ⟨(gw_mem 264 rfl rfl), (gw_mem 265 rfl rfl), (gw_mem 266 rfl rfl), (gw_mem 27 rfl rfl), (gw_mem 267 rfl rfl), by decide +kernel⟩
set_option maxRecDepth 20000 in
theorem kL_A_seat : cv_W "HandTablesLaw" 32 "HandTables" yA_seat bA_seat 8 (some .boolean) 3 := ⟨(gw_mem 273 rfl rfl), (gw_mem 274 rfl rfl), (gw_mem 275 rfl rfl), (gw_mem 27 rfl rfl), (gw_mem 276 rfl rfl), by decide +kernel⟩
set_option maxRecDepth 20000 in
theorem kL_A_leave : cv_W "HandTablesLaw" 38 "HandTables" yA_leave bA_leave 3 (some .boolean) 1 := ⟨(gw_mem 307 rfl rfl), (gw_mem 308 rfl rfl), (gw_mem 309 rfl rfl), (gw_mem 27 rfl rfl), (gw_mem 310 rfl rfl), by decide +kernel⟩
set_option maxRecDepth 20000 in
theorem kL_A_board : cv_W "HandTablesLaw" 42 "HandTables" yA_board bA_board 4 (some .int) 1 := ⟨(gw_mem 314 rfl rfl), (gw_mem 315 rfl rfl), (gw_mem 316 rfl rfl), (gw_mem 27 rfl rfl), (gw_mem 317 rfl rfl), by decide +kernel⟩
set_option maxRecDepth 20000 in
theorem kL_A_cards : cv_W "HandTablesLaw" 45 "HandTables" yA_cards bA_cards 2 (some .long) 1 := ⟨(gw_mem 325 rfl rfl), (gw_mem 326 rfl rfl), (gw_mem 327 rfl rfl), (gw_mem 27 rfl rfl), (gw_mem 328 rfl rfl), by decide +kernel⟩
set_option maxRecDepth 20000 in
theorem kL_A_hand : cv_W "HandTablesLaw" 49 "HandTables" yA_hand bA_hand 2 (some .int) 1 := ⟨(gw_mem 333 rfl rfl), (gw_mem 334 rfl rfl), (gw_mem 335 rfl rfl), (gw_mem 27 rfl rfl), (gw_mem 336 rfl rfl), by decide +kernel⟩
set_option maxRecDepth 20000 in
theorem kL_A_ahead : cv_W "HandTablesLaw" 54 "HandTables" yA_ahead bA_ahead 2 (some .int) 0 := ⟨(gw_mem 365 rfl rfl), (gw_mem 366 rfl rfl), (gw_mem 367 rfl rfl), (gw_mem 27 rfl rfl), (gw_mem 368 rfl rfl), by decide +kernel⟩
set_option maxRecDepth 20000 in
theorem kL_A_boards : cv_W "HandTablesLaw" 58 "HandTables" yA_boards bA_boards 2 (some .int) 0 := ⟨(gw_mem 376 rfl rfl), (gw_mem 377 rfl rfl), (gw_mem 378 rfl rfl), (gw_mem 27 rfl rfl), (gw_mem 379 rfl rfl), by decide +kernel⟩
set_option maxRecDepth 20000 in
theorem kL_A_wins : cv_W "HandTablesLaw" 61 "HandTables" yA_wins bA_wins 3 (some .int) 2 := ⟨(gw_mem 388 rfl rfl), (gw_mem 389 rfl rfl), (gw_mem 390 rfl rfl), (gw_mem 27 rfl rfl), (gw_mem 391 rfl rfl), by decide +kernel⟩
set_option maxRecDepth 20000 in
theorem kL_A_outs : cv_W "HandTablesLaw" 65 "HandTables" yA_outs bA_outs 9 (some .long) 1 := ⟨(gw_mem 402 rfl rfl), (gw_mem 403 rfl rfl), (gw_mem 404 rfl rfl), (gw_mem 27 rfl rfl), (gw_mem 405 rfl rfl), by decide +kernel⟩
set_option maxRecDepth 20000 in
theorem kL_A_share : cv_W "HandTablesLaw" 68 "HandTables" yA_share bA_share 6 (some .int) 2 := ⟨(gw_mem 410 rfl rfl), (gw_mem 411 rfl rfl), (gw_mem 412 rfl rfl), (gw_mem 27 rfl rfl), (gw_mem 413 rfl rfl), by decide +kernel⟩
set_option maxRecDepth 20000 in
theorem kL_M_value : cv_W "HandTablesLaw" 82 "HandTablesModel" yM_value bM_value 3 (some .int) 1 := ⟨(gw_mem 522 rfl rfl), (gw_mem 523 rfl rfl), (gw_mem 524 rfl rfl), (gw_mem 28 rfl rfl), (gw_mem 525 rfl rfl), by decide +kernel⟩
set_option maxRecDepth 20000 in
theorem kL_M_thrown : cv_W "HandTablesLaw" 83 "HandTablesModel" yM_thrown bM_thrown 1 (some .int) 0 := ⟨(gw_mem 518 rfl rfl), (gw_mem 519 rfl rfl), (gw_mem 520 rfl rfl), (gw_mem 28 rfl rfl), (gw_mem 521 rfl rfl), by decide +kernel⟩
set_option maxRecDepth 20000 in
theorem kL_M_category : cv_W "HandTablesLaw" 88 "HandTablesModel" yM_category bM_category 3 (some .int) 1 := ⟨(gw_mem 545 rfl rfl), (gw_mem 546 rfl rfl), (gw_mem 547 rfl rfl), (gw_mem 28 rfl rfl), (gw_mem 548 rfl rfl), by decide +kernel⟩
set_option maxRecDepth 20000 in
theorem kL_M_best : cv_W "HandTablesLaw" 91 "HandTablesModel" yM_best bM_best 10 (some .long) 1 := ⟨(gw_mem 549 rfl rfl), (gw_mem 550 rfl rfl), (gw_mem 551 rfl rfl), (gw_mem 28 rfl rfl), (gw_mem 552 rfl rfl), by decide +kernel⟩
set_option maxRecDepth 20000 in
theorem kL_M_worth : cv_W "HandTablesLaw" 95 "HandTablesModel" yM_worth bM_worth 8 (some .int) 1 := ⟨(gw_mem 553 rfl rfl), (gw_mem 554 rfl rfl), (gw_mem 555 rfl rfl), (gw_mem 28 rfl rfl), (gw_mem 556 rfl rfl), by decide +kernel⟩
set_option maxRecDepth 20000 in
theorem kL_M_sets : cv_W "HandTablesLaw" 98 "HandTablesModel" yM_sets bM_sets 3 (some .int) 1 := ⟨(gw_mem 560 rfl rfl), (gw_mem 561 rfl rfl), (gw_mem 562 rfl rfl), (gw_mem 28 rfl rfl), (gw_mem 563 rfl rfl), by decide +kernel⟩
set_option maxRecDepth 20000 in
theorem kL_M_first : cv_W "HandTablesLaw" 101 "HandTablesModel" yM_first bM_first 2 (some .int) 1 := ⟨(gw_mem 564 rfl rfl), (gw_mem 565 rfl rfl), (gw_mem 566 rfl rfl), (gw_mem 28 rfl rfl), (gw_mem 567 rfl rfl), by decide +kernel⟩
set_option maxRecDepth 20000 in
theorem kL_M_seat : cv_W "HandTablesLaw" 105 "HandTablesModel" yM_seat bM_seat 4 (some .boolean) 3 := ⟨(gw_mem 568 rfl rfl), (gw_mem 569 rfl rfl), (gw_mem 570 rfl rfl), (gw_mem 28 rfl rfl), (gw_mem 571 rfl rfl), by decide +kernel⟩
set_option maxRecDepth 20000 in
theorem kL_M_leave : cv_W "HandTablesLaw" 108 "HandTablesModel" yM_leave bM_leave 2 (some .boolean) 1 := ⟨(gw_mem 582 rfl rfl), (gw_mem 583 rfl rfl), (gw_mem 584 rfl rfl), (gw_mem 28 rfl rfl), (gw_mem 585 rfl rfl), by decide +kernel⟩
set_option maxRecDepth 20000 in
theorem kL_M_board : cv_W "HandTablesLaw" 111 "HandTablesModel" yM_board bM_board 2 (some .int) 1 := ⟨(gw_mem 586 rfl rfl), (gw_mem 587 rfl rfl), (gw_mem 588 rfl rfl), (gw_mem 28 rfl rfl), (gw_mem 589 rfl rfl), by decide +kernel⟩
set_option maxRecDepth 20000 in
theorem kL_A_clear : cv_W "HandTablesLaw" 112 "HandTables" yA_clear bA_clear 2 (some .int) 0 := ⟨(gw_mem 61 rfl rfl), (gw_mem 62 rfl rfl), (gw_mem 63 rfl rfl), (gw_mem 27 rfl rfl), (gw_mem 64 rfl rfl), by decide +kernel⟩
set_option maxRecDepth 20000 in
theorem kL_M_clear : cv_W "HandTablesLaw" 115 "HandTablesModel" yM_clear bM_clear 2 (some .int) 0 := ⟨(gw_mem 590 rfl rfl), (gw_mem 591 rfl rfl), (gw_mem 592 rfl rfl), (gw_mem 28 rfl rfl), (gw_mem 593 rfl rfl), by decide +kernel⟩
set_option maxRecDepth 20000 in
theorem kL_M_cards : cv_W "HandTablesLaw" 118 "HandTablesModel" yM_cards bM_cards 5 (some .long) 1 := ⟨(gw_mem 594 rfl rfl), (gw_mem 595 rfl rfl), (gw_mem 596 rfl rfl), (gw_mem 28 rfl rfl), (gw_mem 597 rfl rfl), by decide +kernel⟩
set_option maxRecDepth 20000 in
theorem kL_M_hand : cv_W "HandTablesLaw" 121 "HandTablesModel" yM_hand bM_hand 2 (some .int) 1 := ⟨(gw_mem 598 rfl rfl), (gw_mem 599 rfl rfl), (gw_mem 600 rfl rfl), (gw_mem 28 rfl rfl), (gw_mem 601 rfl rfl), by decide +kernel⟩
set_option maxRecDepth 20000 in
theorem kL_M_ahead : cv_W "HandTablesLaw" 125 "HandTablesModel" yM_ahead bM_ahead 1 (some .int) 0 := ⟨(gw_mem 606 rfl rfl), (gw_mem 607 rfl rfl), (gw_mem 608 rfl rfl), (gw_mem 28 rfl rfl), (gw_mem 609 rfl rfl), by decide +kernel⟩
set_option maxRecDepth 20000 in
theorem kL_M_boards : cv_W "HandTablesLaw" 128 "HandTablesModel" yM_boards bM_boards 1 (some .int) 0 := ⟨(gw_mem 618 rfl rfl), (gw_mem 619 rfl rfl), (gw_mem 620 rfl rfl), (gw_mem 28 rfl rfl), (gw_mem 621 rfl rfl), by decide +kernel⟩
set_option maxRecDepth 20000 in
theorem kL_M_wins : cv_W "HandTablesLaw" 132 "HandTablesModel" yM_wins bM_wins 3 (some .int) 2 := ⟨(gw_mem 626 rfl rfl), (gw_mem 627 rfl rfl), (gw_mem 628 rfl rfl), (gw_mem 28 rfl rfl), (gw_mem 629 rfl rfl), by decide +kernel⟩
set_option maxRecDepth 20000 in
theorem kL_M_outs : cv_W "HandTablesLaw" 135 "HandTablesModel" yM_outs bM_outs 5 (some .long) 1 := ⟨(gw_mem 638 rfl rfl), (gw_mem 639 rfl rfl), (gw_mem 640 rfl rfl), (gw_mem 28 rfl rfl), (gw_mem 641 rfl rfl), by decide +kernel⟩
set_option maxRecDepth 20000 in
theorem kL_M_share : cv_W "HandTablesLaw" 138 "HandTablesModel" yM_share bM_share 7 (some .int) 2 := ⟨(gw_mem 642 rfl rfl), (gw_mem 643 rfl rfl), (gw_mem 644 rfl rfl), (gw_mem 28 rfl rfl), (gw_mem 645 rfl rfl), by decide +kernel⟩
set_option maxRecDepth 20000 in
theorem kL_A_shuffle : cv_W "HandTablesLaw" 139 "HandTables" yA_shuffle bA_shuffle 6 none 1 := ⟨(gw_mem 75 rfl rfl), (gw_mem 76 rfl rfl), (gw_mem 77 rfl rfl), (gw_mem 27 rfl rfl), (gw_mem 78 rfl rfl), by decide +kernel⟩
set_option maxRecDepth 20000 in
theorem kL_M_shuffle : cv_W "HandTablesLaw" 143 "HandTablesModel" yM_shuffle bM_shuffle 6 none 1 := ⟨(gw_mem 646 rfl rfl), (gw_mem 647 rfl rfl), (gw_mem 648 rfl rfl), (gw_mem 28 rfl rfl), (gw_mem 649 rfl rfl), by decide +kernel⟩
set_option maxRecDepth 20000 in
theorem kL_A_draw : cv_W "HandTablesLaw" 144 "HandTables" yA_draw bA_draw 2 (some .int) 0 := ⟨(gw_mem 81 rfl rfl), (gw_mem 82 rfl rfl), (gw_mem 83 rfl rfl), (gw_mem 27 rfl rfl), (gw_mem 84 rfl rfl), by decide +kernel⟩
set_option maxRecDepth 20000 in
theorem kL_M_draw : cv_W "HandTablesLaw" 147 "HandTablesModel" yM_draw bM_draw 1 (some .int) 0 := ⟨(gw_mem 652 rfl rfl), (gw_mem 653 rfl rfl), (gw_mem 654 rfl rfl), (gw_mem 28 rfl rfl), (gw_mem 655 rfl rfl), by decide +kernel⟩
set_option maxHeartbeats 4000000 in
set_option maxRecDepth 100000 in
theorem cL_value (l : Launch) (g : xo_E) (o : Nat) (T : Nat → Int64) (dk : Nat → Int32) (dn : Int32) (f : Nat → Int64) (k1 : Int64) (hap : xo_ap g) (ho : ¬ mu_fr g o) (res : mu_R) (dd : Nat) (hdd : dd ≤ 9) (hM : mu_M l yA_value bA_value 3 (some .int) dd (.ref (xo_a g) :: [.long k1]) g (xo_F g T dk dn) res) (hE : ∀ E, res = .inl E → E = ex_IA) (hV : ∀ v T1 k1 n1, res = .inr (v, T1, k1, n1) → ∃ z : Int32, v = some (.int z)) : wr_M l yL_value bL_value 5 [(0, 9, 12, 13)] 11 [.ref (xo_a g), .long k1, .ref o] g o T dk dn f (fun k z T1 dk1 dn1 => (res = .inl ex_IA ∧ k = 1 ∧ T1 = T ∧ dk1 = dk ∧ dn1 = dn) ∨ (∃ v : Int32, res = .inr (some (.int v), T1, dk1, dn1) ∧ k = 0 ∧ z = v.toInt64)) := by
  refine va_MetW (cc := bL_value) (maxL := 5) (ret := some .int) (hh := [(0, 9, 12, 13)]) (by decide) rfl ?_
  intro p e s m args below meth c s₁ BB hml hv
  obtain ⟨rfl, hB⟩ := hv
  have hx := BB.exec
  have hb := BB.bytes
  have hr := BB.returns
  have hlk := BB.notSynchronized
  have hts := atoms_spec (ws := wdW yL_value bL_value 5 (some .int) [(0, 9, 12, 13)]) BB.pre
  have hown : s.vm.findClass "HandTablesLaw" = some m.cls := findClass_of_methodNamed BB.named
  have hS : CallFix p m c bL_value 5 s _ (wdW yL_value bL_value 5 (some .int) [(0, 9, 12, 13)]) "HandTablesLaw" := ⟨hx, hb, hml, hown, hts⟩
  have htab := vx_table (x := yL_value) BB (hts _ List.mem_cons_self)
  obtain ⟨hX, hNc, hO⟩ := id hB
  obtain ⟨hTa, hEx, hP, hK⟩ := id hX
  have hl := lv_entry ([.ref (xo_a g), .long k1, .ref o]) (n := 5) (Nat.le_of_ble_eq_true rfl)
  rw [lg_entry_eq]
  generalize (lg_sl ([.ref (xo_a g), .long k1, .ref o]) ++ List.replicate (5 - (lg_sl ([.ref (xo_a g), .long k1, .ref o])).length) Slot.unset).toArray = ls at hl ⊢
  have hl : lv_has ls 5 [(0, .ref (xo_a g)), (1, .long k1), (3, .ref o)] := hl
  refine lv_aload_n hx hb dL_value_0 rfl (lv_at hl 2 rfl) ?_
  refine lv_iconst (v := 0) hx hb dL_value_1 (by decide) ?_
  refine lv_aload_n hx hb dL_value_2 rfl (lv_at hl 0 rfl) ?_
  refine lv_lload_n hx hb dL_value_3 rfl (lv_at hl 1 rfl) ?_
  refine wr_V (rest := [.int 0, .ref o]) hM rfl (fun w hw => List.mem_cons_of_mem _ hw) kL_A_value hS (fun U hU hW => bl_xo s U hW hU hX) (xo_rc hX) ⟨by show dd + 1 ≤ 11; omega, by show 8 + (3 + 11) + 70 * dd ≤ 70 * 11; omega⟩ hl.1 rfl (Nat.le_of_ble_eq_true rfl) ⟨Nat.le_of_ble_eq_true rfl, Nat.le_of_ble_eq_true rfl⟩ dL_value_4 (fun v T1 dk1 dn1 H L hres hP hz hk hL => ?_) (fun E q ce H L hres hce hcv hcl hz hk hL => ?_)
  · obtain ⟨z, rfl⟩ := hV v T1 dk1 dn1 hres
    obtain ⟨hP, hSS⟩ := wr_back hO ho hP hz hk hL
    refine jv_i2l hx hb dL_value_7 ?_
    refine va_last (x := z.toInt64) hx hb hK hP (xq_D T1 dk1 dn1 f hap ho) hSS 3 0 rfl rfl (by unfold vp_in; decide) dL_value_8 (fun H locs hP _ hSS => ?_)
    have hP : va_P g.1 cl_X (xq_W g o T1 dk1 dn1 (vp_updL f (0 : Int32).toNatClampNeg (z.toInt64))) H := hP
    refine lv_goto (tgt := 16) hx hb dL_value_9 (by decide) ?_
    refine lv_iconst (v := 0) hx hb dL_value_16 (by decide) ?_
    exact wr_iret hx hb hr hlk dL_value_17 hP hSS (Or.inr <| ⟨z, hres, rfl, rfl⟩)
  · obtain ⟨hP, hSS⟩ := wr_back hO ho (hP.kept (fun j x hj => hk _ (hP j x hj).lt)) hz (fun q h1 _ => hk q h1) hL
    have hEE := hE E hres; subst hEE
    refine vx_catch (own := "HandTablesLaw") (name := ex_IA) hown [] ⟨0, 9, 12, 13⟩ [] (by rw [htab]; rfl) (fun z9 hz9 => nomatch hz9) (by decide) (by decide) (hts _ (List.mem_cons_of_mem _ (gw_mem 88 rfl rfl))) (va_Nw.use rfl (hEx.1 _ (by decide))) hce hcv hcl ?_
    refine lv_astore (lv' := [(4, .ref q), (0, .ref (xo_a g)), (1, .long k1), (3, .ref o)]) hx hb dL_value_12 hl (by decide) rfl (fun ls hl => ?_)
    refine lv_iconst (v := 1) hx hb dL_value_14 (by decide) ?_
    exact wr_iret hx hb hr hlk dL_value_15 hP hSS (Or.inl ⟨hres, rfl, rfl, rfl, rfl⟩)
set_option maxHeartbeats 4000000 in
set_option maxRecDepth 100000 in
theorem cL_category (l : Launch) (g : xo_E) (o : Nat) (T : Nat → Int64) (dk : Nat → Int32) (dn : Int32) (f : Nat → Int64) (k1 : Int64) (hap : xo_ap g) (ho : ¬ mu_fr g o) (res : mu_R) (dd : Nat) (hdd : dd ≤ 9) (hM : mu_M l yA_category bA_category 3 (some .int) dd (.ref (xo_a g) :: [.long k1]) g (xo_F g T dk dn) res) (hE : ∀ E, res = .inl E → E = ex_IA) (hV : ∀ v T1 k1 n1, res = .inr (v, T1, k1, n1) → ∃ z : Int32, v = some (.int z)) : wr_M l yL_category bL_category 5 [(0, 9, 12, 13)] 11 [.ref (xo_a g), .long k1, .ref o] g o T dk dn f (fun k z T1 dk1 dn1 => (res = .inl ex_IA ∧ k = 1 ∧ T1 = T ∧ dk1 = dk ∧ dn1 = dn) ∨ (∃ v : Int32, res = .inr (some (.int v), T1, dk1, dn1) ∧ k = 0 ∧ z = v.toInt64)) := by
  refine va_MetW (cc := bL_category) (maxL := 5) (ret := some .int) (hh := [(0, 9, 12, 13)]) (by decide) rfl ?_
  intro p e s m args below meth c s₁ BB hml hv
  obtain ⟨rfl, hB⟩ := hv
  have hx := BB.exec
  have hb := BB.bytes
  have hr := BB.returns
  have hlk := BB.notSynchronized
  have hts := atoms_spec (ws := wdW yL_category bL_category 5 (some .int) [(0, 9, 12, 13)]) BB.pre
  have hown : s.vm.findClass "HandTablesLaw" = some m.cls := findClass_of_methodNamed BB.named
  have hS : CallFix p m c bL_category 5 s _ (wdW yL_category bL_category 5 (some .int) [(0, 9, 12, 13)]) "HandTablesLaw" := ⟨hx, hb, hml, hown, hts⟩
  have htab := vx_table (x := yL_category) BB (hts _ List.mem_cons_self)
  obtain ⟨hX, hNc, hO⟩ := id hB
  obtain ⟨hTa, hEx, hP, hK⟩ := id hX
  have hl := lv_entry ([.ref (xo_a g), .long k1, .ref o]) (n := 5) (Nat.le_of_ble_eq_true rfl)
  rw [lg_entry_eq]
  generalize (lg_sl ([.ref (xo_a g), .long k1, .ref o]) ++ List.replicate (5 - (lg_sl ([.ref (xo_a g), .long k1, .ref o])).length) Slot.unset).toArray = ls at hl ⊢
  have hl : lv_has ls 5 [(0, .ref (xo_a g)), (1, .long k1), (3, .ref o)] := hl
  refine lv_aload_n hx hb dL_category_0 rfl (lv_at hl 2 rfl) ?_
  refine lv_iconst (v := 0) hx hb dL_category_1 (by decide) ?_
  refine lv_aload_n hx hb dL_category_2 rfl (lv_at hl 0 rfl) ?_
  refine lv_lload_n hx hb dL_category_3 rfl (lv_at hl 1 rfl) ?_
  refine wr_V (rest := [.int 0, .ref o]) hM rfl (fun w hw => List.mem_cons_of_mem _ hw) kL_A_category hS (fun U hU hW => bl_xo s U hW hU hX) (xo_rc hX) ⟨by show dd + 1 ≤ 11; omega, by show 8 + (3 + 11) + 70 * dd ≤ 70 * 11; omega⟩ hl.1 rfl (Nat.le_of_ble_eq_true rfl) ⟨Nat.le_of_ble_eq_true rfl, Nat.le_of_ble_eq_true rfl⟩ dL_category_4 (fun v T1 dk1 dn1 H L hres hP hz hk hL => ?_) (fun E q ce H L hres hce hcv hcl hz hk hL => ?_)
  · obtain ⟨z, rfl⟩ := hV v T1 dk1 dn1 hres
    obtain ⟨hP, hSS⟩ := wr_back hO ho hP hz hk hL
    refine jv_i2l hx hb dL_category_7 ?_
    refine va_last (x := z.toInt64) hx hb hK hP (xq_D T1 dk1 dn1 f hap ho) hSS 3 0 rfl rfl (by unfold vp_in; decide) dL_category_8 (fun H locs hP _ hSS => ?_)
    have hP : va_P g.1 cl_X (xq_W g o T1 dk1 dn1 (vp_updL f (0 : Int32).toNatClampNeg (z.toInt64))) H := hP
    refine lv_goto (tgt := 16) hx hb dL_category_9 (by decide) ?_
    refine lv_iconst (v := 0) hx hb dL_category_16 (by decide) ?_
    exact wr_iret hx hb hr hlk dL_category_17 hP hSS (Or.inr <| ⟨z, hres, rfl, rfl⟩)
  · obtain ⟨hP, hSS⟩ := wr_back hO ho (hP.kept (fun j x hj => hk _ (hP j x hj).lt)) hz (fun q h1 _ => hk q h1) hL
    have hEE := hE E hres; subst hEE
    refine vx_catch (own := "HandTablesLaw") (name := ex_IA) hown [] ⟨0, 9, 12, 13⟩ [] (by rw [htab]; rfl) (fun z9 hz9 => nomatch hz9) (by decide) (by decide) (hts _ (List.mem_cons_of_mem _ (gw_mem 88 rfl rfl))) (va_Nw.use rfl (hEx.1 _ (by decide))) hce hcv hcl ?_
    refine lv_astore (lv' := [(4, .ref q), (0, .ref (xo_a g)), (1, .long k1), (3, .ref o)]) hx hb dL_category_12 hl (by decide) rfl (fun ls hl => ?_)
    refine lv_iconst (v := 1) hx hb dL_category_14 (by decide) ?_
    exact wr_iret hx hb hr hlk dL_category_15 hP hSS (Or.inl ⟨hres, rfl, rfl, rfl, rfl⟩)
set_option maxHeartbeats 4000000 in
set_option maxRecDepth 100000 in
theorem cL_best (l : Launch) (g : xo_E) (o : Nat) (T : Nat → Int64) (dk : Nat → Int32) (dn : Int32) (f : Nat → Int64) (k1 : Int64) (hap : xo_ap g) (ho : ¬ mu_fr g o) (res : mu_R) (dd : Nat) (hdd : dd ≤ 9) (hM : mu_M l yA_best bA_best 7 (some .long) dd (.ref (xo_a g) :: [.long k1]) g (xo_F g T dk dn) res) (hE : ∀ E, res = .inl E → E = ex_IA) (hV : ∀ v T1 k1 n1, res = .inr (v, T1, k1, n1) → ∃ z : Int64, v = some (.long z)) : wr_M l yL_best bL_best 5 [(0, 8, 11, 13)] 11 [.ref (xo_a g), .long k1, .ref o] g o T dk dn f (fun k z T1 dk1 dn1 => (res = .inl ex_IA ∧ k = 1 ∧ T1 = T ∧ dk1 = dk ∧ dn1 = dn) ∨ (∃ v : Int64, res = .inr (some (.long v), T1, dk1, dn1) ∧ k = 0 ∧ z = v)) := by
  refine va_MetW (cc := bL_best) (maxL := 5) (ret := some .int) (hh := [(0, 8, 11, 13)]) (by decide) rfl ?_
  intro p e s m args below meth c s₁ BB hml hv
  obtain ⟨rfl, hB⟩ := hv
  have hx := BB.exec
  have hb := BB.bytes
  have hr := BB.returns
  have hlk := BB.notSynchronized
  have hts := atoms_spec (ws := wdW yL_best bL_best 5 (some .int) [(0, 8, 11, 13)]) BB.pre
  have hown : s.vm.findClass "HandTablesLaw" = some m.cls := findClass_of_methodNamed BB.named
  have hS : CallFix p m c bL_best 5 s _ (wdW yL_best bL_best 5 (some .int) [(0, 8, 11, 13)]) "HandTablesLaw" := ⟨hx, hb, hml, hown, hts⟩
  have htab := vx_table (x := yL_best) BB (hts _ List.mem_cons_self)
  obtain ⟨hX, hNc, hO⟩ := id hB
  obtain ⟨hTa, hEx, hP, hK⟩ := id hX
  have hl := lv_entry ([.ref (xo_a g), .long k1, .ref o]) (n := 5) (Nat.le_of_ble_eq_true rfl)
  rw [lg_entry_eq]
  generalize (lg_sl ([.ref (xo_a g), .long k1, .ref o]) ++ List.replicate (5 - (lg_sl ([.ref (xo_a g), .long k1, .ref o])).length) Slot.unset).toArray = ls at hl ⊢
  have hl : lv_has ls 5 [(0, .ref (xo_a g)), (1, .long k1), (3, .ref o)] := hl
  refine lv_aload_n hx hb dL_best_0 rfl (lv_at hl 2 rfl) ?_
  refine lv_iconst (v := 0) hx hb dL_best_1 (by decide) ?_
  refine lv_aload_n hx hb dL_best_2 rfl (lv_at hl 0 rfl) ?_
  refine lv_lload_n hx hb dL_best_3 rfl (lv_at hl 1 rfl) ?_
  refine wr_V (rest := [.int 0, .ref o]) hM rfl (fun w hw => List.mem_cons_of_mem _ hw) kL_A_best hS (fun U hU hW => bl_xo s U hW hU hX) (xo_rc hX) ⟨by show dd + 1 ≤ 11; omega, by show 8 + (7 + 11) + 70 * dd ≤ 70 * 11; omega⟩ hl.1 rfl (Nat.le_of_ble_eq_true rfl) ⟨Nat.le_of_ble_eq_true rfl, Nat.le_of_ble_eq_true rfl⟩ dL_best_4 (fun v T1 dk1 dn1 H L hres hP hz hk hL => ?_) (fun E q ce H L hres hce hcv hcl hz hk hL => ?_)
  · obtain ⟨z, rfl⟩ := hV v T1 dk1 dn1 hres
    obtain ⟨hP, hSS⟩ := wr_back hO ho hP hz hk hL
    refine va_last (x := z) hx hb hK hP (xq_D T1 dk1 dn1 f hap ho) hSS 3 0 rfl rfl (by unfold vp_in; decide) dL_best_7 (fun H locs hP _ hSS => ?_)
    have hP : va_P g.1 cl_X (xq_W g o T1 dk1 dn1 (vp_updL f (0 : Int32).toNatClampNeg z)) H := hP
    refine lv_goto (tgt := 15) hx hb dL_best_8 (by decide) ?_
    refine lv_iconst (v := 0) hx hb dL_best_15 (by decide) ?_
    exact wr_iret hx hb hr hlk dL_best_16 hP hSS (Or.inr <| ⟨z, hres, rfl, rfl⟩)
  · obtain ⟨hP, hSS⟩ := wr_back hO ho (hP.kept (fun j x hj => hk _ (hP j x hj).lt)) hz (fun q h1 _ => hk q h1) hL
    have hEE := hE E hres; subst hEE
    refine vx_catch (own := "HandTablesLaw") (name := ex_IA) hown [] ⟨0, 8, 11, 13⟩ [] (by rw [htab]; rfl) (fun z9 hz9 => nomatch hz9) (by decide) (by decide) (hts _ (List.mem_cons_of_mem _ (gw_mem 88 rfl rfl))) (va_Nw.use rfl (hEx.1 _ (by decide))) hce hcv hcl ?_
    refine lv_astore (lv' := [(4, .ref q), (0, .ref (xo_a g)), (1, .long k1), (3, .ref o)]) hx hb dL_best_11 hl (by decide) rfl (fun ls hl => ?_)
    refine lv_iconst (v := 1) hx hb dL_best_13 (by decide) ?_
    exact wr_iret hx hb hr hlk dL_best_14 hP hSS (Or.inl ⟨hres, rfl, rfl, rfl, rfl⟩)
set_option maxHeartbeats 4000000 in
set_option maxRecDepth 100000 in
theorem cL_worth (l : Launch) (g : xo_E) (o : Nat) (T : Nat → Int64) (dk : Nat → Int32) (dn : Int32) (f : Nat → Int64) (k1 : Int32) (hap : xo_ap g) (ho : ¬ mu_fr g o) (res : mu_R) (dd : Nat) (hdd : dd ≤ 9) (hM : mu_M l yA_worth bA_worth 3 (some .int) dd (.ref (xo_a g) :: [.int k1]) g (xo_F g T dk dn) res) (hE : ∀ E, res = .inl E → E = ex_IA) (hV : ∀ v T1 k1 n1, res = .inr (v, T1, k1, n1) → ∃ z : Int32, v = some (.int z)) : wr_M l yL_worth bL_worth 4 [(0, 9, 12, 13)] 11 [.ref (xo_a g), .int k1, .ref o] g o T dk dn f (fun k z T1 dk1 dn1 => (res = .inl ex_IA ∧ k = 1 ∧ T1 = T ∧ dk1 = dk ∧ dn1 = dn) ∨ (∃ v : Int32, res = .inr (some (.int v), T1, dk1, dn1) ∧ k = 0 ∧ z = v.toInt64)) := by
  refine va_MetW (cc := bL_worth) (maxL := 4) (ret := some .int) (hh := [(0, 9, 12, 13)]) (by decide) rfl ?_
  intro p e s m args below meth c s₁ BB hml hv
  obtain ⟨rfl, hB⟩ := hv
  have hx := BB.exec
  have hb := BB.bytes
  have hr := BB.returns
  have hlk := BB.notSynchronized
  have hts := atoms_spec (ws := wdW yL_worth bL_worth 4 (some .int) [(0, 9, 12, 13)]) BB.pre
  have hown : s.vm.findClass "HandTablesLaw" = some m.cls := findClass_of_methodNamed BB.named
  have hS : CallFix p m c bL_worth 4 s _ (wdW yL_worth bL_worth 4 (some .int) [(0, 9, 12, 13)]) "HandTablesLaw" := ⟨hx, hb, hml, hown, hts⟩
  have htab := vx_table (x := yL_worth) BB (hts _ List.mem_cons_self)
  obtain ⟨hX, hNc, hO⟩ := id hB
  obtain ⟨hTa, hEx, hP, hK⟩ := id hX
  have hl := lv_entry ([.ref (xo_a g), .int k1, .ref o]) (n := 4) (Nat.le_of_ble_eq_true rfl)
  rw [lg_entry_eq]
  generalize (lg_sl ([.ref (xo_a g), .int k1, .ref o]) ++ List.replicate (4 - (lg_sl ([.ref (xo_a g), .int k1, .ref o])).length) Slot.unset).toArray = ls at hl ⊢
  have hl : lv_has ls 4 [(0, .ref (xo_a g)), (1, .int k1), (2, .ref o)] := hl
  refine lv_aload_n hx hb dL_worth_0 rfl (lv_at hl 2 rfl) ?_
  refine lv_iconst (v := 0) hx hb dL_worth_1 (by decide) ?_
  refine lv_aload_n hx hb dL_worth_2 rfl (lv_at hl 0 rfl) ?_
  refine lv_iload_n hx hb dL_worth_3 rfl (lv_at hl 1 rfl) ?_
  refine wr_V (rest := [.int 0, .ref o]) hM rfl (fun w hw => List.mem_cons_of_mem _ hw) kL_A_worth hS (fun U hU hW => bl_xo s U hW hU hX) (xo_rc hX) ⟨by show dd + 1 ≤ 11; omega, by show 8 + (3 + 11) + 70 * dd ≤ 70 * 11; omega⟩ hl.1 rfl (Nat.le_of_ble_eq_true rfl) ⟨Nat.le_of_ble_eq_true rfl, Nat.le_of_ble_eq_true rfl⟩ dL_worth_4 (fun v T1 dk1 dn1 H L hres hP hz hk hL => ?_) (fun E q ce H L hres hce hcv hcl hz hk hL => ?_)
  · obtain ⟨z, rfl⟩ := hV v T1 dk1 dn1 hres
    obtain ⟨hP, hSS⟩ := wr_back hO ho hP hz hk hL
    refine jv_i2l hx hb dL_worth_7 ?_
    refine va_last (x := z.toInt64) hx hb hK hP (xq_D T1 dk1 dn1 f hap ho) hSS 3 0 rfl rfl (by unfold vp_in; decide) dL_worth_8 (fun H locs hP _ hSS => ?_)
    have hP : va_P g.1 cl_X (xq_W g o T1 dk1 dn1 (vp_updL f (0 : Int32).toNatClampNeg (z.toInt64))) H := hP
    refine lv_goto (tgt := 15) hx hb dL_worth_9 (by decide) ?_
    refine lv_iconst (v := 0) hx hb dL_worth_15 (by decide) ?_
    exact wr_iret hx hb hr hlk dL_worth_16 hP hSS (Or.inr <| ⟨z, hres, rfl, rfl⟩)
  · obtain ⟨hP, hSS⟩ := wr_back hO ho (hP.kept (fun j x hj => hk _ (hP j x hj).lt)) hz (fun q h1 _ => hk q h1) hL
    have hEE := hE E hres; subst hEE
    refine vx_catch (own := "HandTablesLaw") (name := ex_IA) hown [] ⟨0, 9, 12, 13⟩ [] (by rw [htab]; rfl) (fun z9 hz9 => nomatch hz9) (by decide) (by decide) (hts _ (List.mem_cons_of_mem _ (gw_mem 88 rfl rfl))) (va_Nw.use rfl (hEx.1 _ (by decide))) hce hcv hcl ?_
    refine lv_astore_n (lv' := [(3, .ref q), (0, .ref (xo_a g)), (1, .int k1), (2, .ref o)]) hx hb dL_worth_12 rfl hl (by decide) rfl (fun ls hl => ?_)
    refine lv_iconst (v := 1) hx hb dL_worth_13 (by decide) ?_
    exact wr_iret hx hb hr hlk dL_worth_14 hP hSS (Or.inl ⟨hres, rfl, rfl, rfl, rfl⟩)
set_option maxHeartbeats 4000000 in
set_option maxRecDepth 100000 in
theorem cL_sets (l : Launch) (g : xo_E) (o : Nat) (T : Nat → Int64) (dk : Nat → Int32) (dn : Int32) (f : Nat → Int64) (k1 : Int32) (hap : xo_ap g) (ho : ¬ mu_fr g o) (res : mu_R) (dd : Nat) (hdd : dd ≤ 9) (hM : mu_M l yA_sets bA_sets 2 (some .int) dd (.ref (xo_a g) :: [.int k1]) g (xo_F g T dk dn) res) (hE : ∀ E, res = .inl E → E = ex_IA) (hV : ∀ v T1 k1 n1, res = .inr (v, T1, k1, n1) → ∃ z : Int32, v = some (.int z)) : wr_M l yL_sets bL_sets 4 [(0, 9, 12, 13)] 11 [.ref (xo_a g), .int k1, .ref o] g o T dk dn f (fun k z T1 dk1 dn1 => (res = .inl ex_IA ∧ k = 1 ∧ T1 = T ∧ dk1 = dk ∧ dn1 = dn) ∨ (∃ v : Int32, res = .inr (some (.int v), T1, dk1, dn1) ∧ k = 0 ∧ z = v.toInt64)) := by
  refine va_MetW (cc := bL_sets) (maxL := 4) (ret := some .int) (hh := [(0, 9, 12, 13)]) (by decide) rfl ?_
  intro p e s m args below meth c s₁ BB hml hv
  obtain ⟨rfl, hB⟩ := hv
  have hx := BB.exec
  have hb := BB.bytes
  have hr := BB.returns
  have hlk := BB.notSynchronized
  have hts := atoms_spec (ws := wdW yL_sets bL_sets 4 (some .int) [(0, 9, 12, 13)]) BB.pre
  have hown : s.vm.findClass "HandTablesLaw" = some m.cls := findClass_of_methodNamed BB.named
  have hS : CallFix p m c bL_sets 4 s _ (wdW yL_sets bL_sets 4 (some .int) [(0, 9, 12, 13)]) "HandTablesLaw" := ⟨hx, hb, hml, hown, hts⟩
  have htab := vx_table (x := yL_sets) BB (hts _ List.mem_cons_self)
  obtain ⟨hX, hNc, hO⟩ := id hB
  obtain ⟨hTa, hEx, hP, hK⟩ := id hX
  have hl := lv_entry ([.ref (xo_a g), .int k1, .ref o]) (n := 4) (Nat.le_of_ble_eq_true rfl)
  rw [lg_entry_eq]
  generalize (lg_sl ([.ref (xo_a g), .int k1, .ref o]) ++ List.replicate (4 - (lg_sl ([.ref (xo_a g), .int k1, .ref o])).length) Slot.unset).toArray = ls at hl ⊢
  have hl : lv_has ls 4 [(0, .ref (xo_a g)), (1, .int k1), (2, .ref o)] := hl
  refine lv_aload_n hx hb dL_sets_0 rfl (lv_at hl 2 rfl) ?_
  refine lv_iconst (v := 0) hx hb dL_sets_1 (by decide) ?_
  refine lv_aload_n hx hb dL_sets_2 rfl (lv_at hl 0 rfl) ?_
  refine lv_iload_n hx hb dL_sets_3 rfl (lv_at hl 1 rfl) ?_
  refine wr_V (rest := [.int 0, .ref o]) hM rfl (fun w hw => List.mem_cons_of_mem _ hw) kL_A_sets hS (fun U hU hW => bl_xo s U hW hU hX) (xo_rc hX) ⟨by show dd + 1 ≤ 11; omega, by show 8 + (2 + 11) + 70 * dd ≤ 70 * 11; omega⟩ hl.1 rfl (Nat.le_of_ble_eq_true rfl) ⟨Nat.le_of_ble_eq_true rfl, Nat.le_of_ble_eq_true rfl⟩ dL_sets_4 (fun v T1 dk1 dn1 H L hres hP hz hk hL => ?_) (fun E q ce H L hres hce hcv hcl hz hk hL => ?_)
  · obtain ⟨z, rfl⟩ := hV v T1 dk1 dn1 hres
    obtain ⟨hP, hSS⟩ := wr_back hO ho hP hz hk hL
    refine jv_i2l hx hb dL_sets_7 ?_
    refine va_last (x := z.toInt64) hx hb hK hP (xq_D T1 dk1 dn1 f hap ho) hSS 3 0 rfl rfl (by unfold vp_in; decide) dL_sets_8 (fun H locs hP _ hSS => ?_)
    have hP : va_P g.1 cl_X (xq_W g o T1 dk1 dn1 (vp_updL f (0 : Int32).toNatClampNeg (z.toInt64))) H := hP
    refine lv_goto (tgt := 15) hx hb dL_sets_9 (by decide) ?_
    refine lv_iconst (v := 0) hx hb dL_sets_15 (by decide) ?_
    exact wr_iret hx hb hr hlk dL_sets_16 hP hSS (Or.inr <| ⟨z, hres, rfl, rfl⟩)
  · obtain ⟨hP, hSS⟩ := wr_back hO ho (hP.kept (fun j x hj => hk _ (hP j x hj).lt)) hz (fun q h1 _ => hk q h1) hL
    have hEE := hE E hres; subst hEE
    refine vx_catch (own := "HandTablesLaw") (name := ex_IA) hown [] ⟨0, 9, 12, 13⟩ [] (by rw [htab]; rfl) (fun z9 hz9 => nomatch hz9) (by decide) (by decide) (hts _ (List.mem_cons_of_mem _ (gw_mem 88 rfl rfl))) (va_Nw.use rfl (hEx.1 _ (by decide))) hce hcv hcl ?_
    refine lv_astore_n (lv' := [(3, .ref q), (0, .ref (xo_a g)), (1, .int k1), (2, .ref o)]) hx hb dL_sets_12 rfl hl (by decide) rfl (fun ls hl => ?_)
    refine lv_iconst (v := 1) hx hb dL_sets_13 (by decide) ?_
    exact wr_iret hx hb hr hlk dL_sets_14 hP hSS (Or.inl ⟨hres, rfl, rfl, rfl, rfl⟩)
set_option maxHeartbeats 4000000 in
set_option maxRecDepth 100000 in
theorem cL_first (l : Launch) (g : xo_E) (o : Nat) (T : Nat → Int64) (dk : Nat → Int32) (dn : Int32) (f : Nat → Int64) (k1 : Int32) (hap : xo_ap g) (ho : ¬ mu_fr g o) (res : mu_R) (dd : Nat) (hdd : dd ≤ 9) (hM : mu_M l yA_first bA_first 2 (some .int) dd (.ref (xo_a g) :: [.int k1]) g (xo_F g T dk dn) res) (hE : ∀ E, res = .inl E → E = ex_IA) (hV : ∀ v T1 k1 n1, res = .inr (v, T1, k1, n1) → ∃ z : Int32, v = some (.int z)) : wr_M l yL_first bL_first 4 [(0, 9, 12, 13)] 11 [.ref (xo_a g), .int k1, .ref o] g o T dk dn f (fun k z T1 dk1 dn1 => (res = .inl ex_IA ∧ k = 1 ∧ T1 = T ∧ dk1 = dk ∧ dn1 = dn) ∨ (∃ v : Int32, res = .inr (some (.int v), T1, dk1, dn1) ∧ k = 0 ∧ z = v.toInt64)) := by
  refine va_MetW (cc := bL_first) (maxL := 4) (ret := some .int) (hh := [(0, 9, 12, 13)]) (by decide) rfl ?_
  intro p e s m args below meth c s₁ BB hml hv
  obtain ⟨rfl, hB⟩ := hv
  have hx := BB.exec
  have hb := BB.bytes
  have hr := BB.returns
  have hlk := BB.notSynchronized
  have hts := atoms_spec (ws := wdW yL_first bL_first 4 (some .int) [(0, 9, 12, 13)]) BB.pre
  have hown : s.vm.findClass "HandTablesLaw" = some m.cls := findClass_of_methodNamed BB.named
  have hS : CallFix p m c bL_first 4 s _ (wdW yL_first bL_first 4 (some .int) [(0, 9, 12, 13)]) "HandTablesLaw" := ⟨hx, hb, hml, hown, hts⟩
  have htab := vx_table (x := yL_first) BB (hts _ List.mem_cons_self)
  obtain ⟨hX, hNc, hO⟩ := id hB
  obtain ⟨hTa, hEx, hP, hK⟩ := id hX
  have hl := lv_entry ([.ref (xo_a g), .int k1, .ref o]) (n := 4) (Nat.le_of_ble_eq_true rfl)
  rw [lg_entry_eq]
  generalize (lg_sl ([.ref (xo_a g), .int k1, .ref o]) ++ List.replicate (4 - (lg_sl ([.ref (xo_a g), .int k1, .ref o])).length) Slot.unset).toArray = ls at hl ⊢
  have hl : lv_has ls 4 [(0, .ref (xo_a g)), (1, .int k1), (2, .ref o)] := hl
  refine lv_aload_n hx hb dL_first_0 rfl (lv_at hl 2 rfl) ?_
  refine lv_iconst (v := 0) hx hb dL_first_1 (by decide) ?_
  refine lv_aload_n hx hb dL_first_2 rfl (lv_at hl 0 rfl) ?_
  refine lv_iload_n hx hb dL_first_3 rfl (lv_at hl 1 rfl) ?_
  refine wr_V (rest := [.int 0, .ref o]) hM rfl (fun w hw => List.mem_cons_of_mem _ hw) kL_A_first hS (fun U hU hW => bl_xo s U hW hU hX) (xo_rc hX) ⟨by show dd + 1 ≤ 11; omega, by show 8 + (2 + 11) + 70 * dd ≤ 70 * 11; omega⟩ hl.1 rfl (Nat.le_of_ble_eq_true rfl) ⟨Nat.le_of_ble_eq_true rfl, Nat.le_of_ble_eq_true rfl⟩ dL_first_4 (fun v T1 dk1 dn1 H L hres hP hz hk hL => ?_) (fun E q ce H L hres hce hcv hcl hz hk hL => ?_)
  · obtain ⟨z, rfl⟩ := hV v T1 dk1 dn1 hres
    obtain ⟨hP, hSS⟩ := wr_back hO ho hP hz hk hL
    refine jv_i2l hx hb dL_first_7 ?_
    refine va_last (x := z.toInt64) hx hb hK hP (xq_D T1 dk1 dn1 f hap ho) hSS 3 0 rfl rfl (by unfold vp_in; decide) dL_first_8 (fun H locs hP _ hSS => ?_)
    have hP : va_P g.1 cl_X (xq_W g o T1 dk1 dn1 (vp_updL f (0 : Int32).toNatClampNeg (z.toInt64))) H := hP
    refine lv_goto (tgt := 15) hx hb dL_first_9 (by decide) ?_
    refine lv_iconst (v := 0) hx hb dL_first_15 (by decide) ?_
    exact wr_iret hx hb hr hlk dL_first_16 hP hSS (Or.inr <| ⟨z, hres, rfl, rfl⟩)
  · obtain ⟨hP, hSS⟩ := wr_back hO ho (hP.kept (fun j x hj => hk _ (hP j x hj).lt)) hz (fun q h1 _ => hk q h1) hL
    have hEE := hE E hres; subst hEE
    refine vx_catch (own := "HandTablesLaw") (name := ex_IA) hown [] ⟨0, 9, 12, 13⟩ [] (by rw [htab]; rfl) (fun z9 hz9 => nomatch hz9) (by decide) (by decide) (hts _ (List.mem_cons_of_mem _ (gw_mem 88 rfl rfl))) (va_Nw.use rfl (hEx.1 _ (by decide))) hce hcv hcl ?_
    refine lv_astore_n (lv' := [(3, .ref q), (0, .ref (xo_a g)), (1, .int k1), (2, .ref o)]) hx hb dL_first_12 rfl hl (by decide) rfl (fun ls hl => ?_)
    refine lv_iconst (v := 1) hx hb dL_first_13 (by decide) ?_
    exact wr_iret hx hb hr hlk dL_first_14 hP hSS (Or.inl ⟨hres, rfl, rfl, rfl, rfl⟩)
set_option maxHeartbeats 4000000 in
set_option maxRecDepth 100000 in
theorem cL_seat (l : Launch) (g : xo_E) (o : Nat) (T : Nat → Int64) (dk : Nat → Int32) (dn : Int32) (f : Nat → Int64) (k1 : Int32) (k2 : Int32) (k3 : Int32) (hap : xo_ap g) (ho : ¬ mu_fr g o) (res : mu_R) (dd : Nat) (hdd : dd ≤ 9) (hM : mu_M l yA_seat bA_seat 8 (some .boolean) dd (.ref (xo_a g) :: [.int k1, .int k2, .int k3]) g (xo_F g T dk dn) res) (hE : ∀ E, res = .inl E → E = ex_IO ∨ E = ex_IA) (hV : ∀ v T1 k1 n1, res = .inr (v, T1, k1, n1) → ∃ z : Int32, v = some (.int z)) : wr_M l yL_seat bL_seat 6 [(0, 19, 22, 36), (0, 19, 26, 13)] 11 [.ref (xo_a g), .int k1, .int k2, .int k3, .ref o] g o T dk dn f (fun k z T1 dk1 dn1 => (res = .inl ex_IO ∧ k = 1 ∧ T1 = T ∧ dk1 = dk ∧ dn1 = dn) ∨ (res = .inl ex_IA ∧ k = 2 ∧ T1 = T ∧ dk1 = dk ∧ dn1 = dn) ∨ (∃ v : Int32, res = .inr (some (.int v), T1, dk1, dn1) ∧ k = 0 ∧ z = if v = 0 then 0 else 1)) := by
  refine va_MetW (cc := bL_seat) (maxL := 6) (ret := some .int) (hh := [(0, 19, 22, 36), (0, 19, 26, 13)]) (by decide) rfl ?_
  intro p e s m args below meth c s₁ BB hml hv
  obtain ⟨rfl, hB⟩ := hv
  have hx := BB.exec
  have hb := BB.bytes
  have hr := BB.returns
  have hlk := BB.notSynchronized
  have hts := atoms_spec (ws := wdW yL_seat bL_seat 6 (some .int) [(0, 19, 22, 36), (0, 19, 26, 13)]) BB.pre
  have hown : s.vm.findClass "HandTablesLaw" = some m.cls := findClass_of_methodNamed BB.named
  have hS : CallFix p m c bL_seat 6 s _ (wdW yL_seat bL_seat 6 (some .int) [(0, 19, 22, 36), (0, 19, 26, 13)]) "HandTablesLaw" := ⟨hx, hb, hml, hown, hts⟩
  have htab := vx_table (x := yL_seat) BB (hts _ List.mem_cons_self)
  obtain ⟨hX, hNc, hO⟩ := id hB
  obtain ⟨hTa, hEx, hP, hK⟩ := id hX
  have hl := lv_entry ([.ref (xo_a g), .int k1, .int k2, .int k3, .ref o]) (n := 6) (Nat.le_of_ble_eq_true rfl)
  rw [lg_entry_eq]
  generalize (lg_sl ([.ref (xo_a g), .int k1, .int k2, .int k3, .ref o]) ++ List.replicate (6 - (lg_sl ([.ref (xo_a g), .int k1, .int k2, .int k3, .ref o])).length) Slot.unset).toArray = ls at hl ⊢
  have hl : lv_has ls 6 [(0, .ref (xo_a g)), (1, .int k1), (2, .int k2), (3, .int k3), (4, .ref o)] := hl
  refine lv_aload hx hb dL_seat_0 (lv_at hl 4 rfl) ?_
  refine lv_iconst (v := 0) hx hb dL_seat_2 (by decide) ?_
  refine lv_aload_n hx hb dL_seat_3 rfl (lv_at hl 0 rfl) ?_
  refine lv_iload_n hx hb dL_seat_4 rfl (lv_at hl 1 rfl) ?_
  refine lv_iload_n hx hb dL_seat_5 rfl (lv_at hl 2 rfl) ?_
  refine lv_iload_n hx hb dL_seat_6 rfl (lv_at hl 3 rfl) ?_
  refine wr_V (rest := [.int 0, .ref o]) hM rfl (fun w hw => List.mem_cons_of_mem _ hw) kL_A_seat hS (fun U hU hW => bl_xo s U hW hU hX) (xo_rc hX) ⟨by show dd + 1 ≤ 11; omega, by show 8 + (8 + 11) + 70 * dd ≤ 70 * 11; omega⟩ hl.1 rfl (Nat.le_of_ble_eq_true rfl) ⟨Nat.le_of_ble_eq_true rfl, Nat.le_of_ble_eq_true rfl⟩ dL_seat_7 (fun v T1 dk1 dn1 H L hres hP hz hk hL => ?_) (fun E q ce H L hres hce hcv hcl hz hk hL => ?_)
  · obtain ⟨z, rfl⟩ := hV v T1 dk1 dn1 hres
    obtain ⟨hP, hSS⟩ := wr_back hO ho hP hz hk hL
    refine lv_if_eq (tgt := 17) hx hb dL_seat_10 (by decide) (fun hc => ?_) (fun hc => ?_)
    · refine lv_lconst (v := 0) hx hb dL_seat_17 (by decide) ?_
      refine va_last (x := 0) hx hb hK hP (xq_D T1 dk1 dn1 f hap ho) hSS 3 0 rfl rfl (by unfold vp_in; decide) dL_seat_18 (fun H locs hP _ hSS => ?_)
      have hP : va_P g.1 cl_X (xq_W g o T1 dk1 dn1 (vp_updL f (0 : Int32).toNatClampNeg 0)) H := hP
      refine lv_goto (tgt := 30) hx hb dL_seat_19 (by decide) ?_
      refine lv_iconst (v := 0) hx hb dL_seat_30 (by decide) ?_
      exact wr_iret hx hb hr hlk dL_seat_31 hP hSS (Or.inr <| Or.inr <| ⟨z, hres, rfl, (if_pos hc).symm⟩)
    · refine lv_lconst (v := 1) hx hb dL_seat_13 (by decide) ?_
      refine lv_goto (tgt := 18) hx hb dL_seat_14 (by decide) ?_
      refine va_last (x := 1) hx hb hK hP (xq_D T1 dk1 dn1 f hap ho) hSS 3 0 rfl rfl (by unfold vp_in; decide) dL_seat_18 (fun H locs hP _ hSS => ?_)
      have hP : va_P g.1 cl_X (xq_W g o T1 dk1 dn1 (vp_updL f (0 : Int32).toNatClampNeg 1)) H := hP
      refine lv_goto (tgt := 30) hx hb dL_seat_19 (by decide) ?_
      refine lv_iconst (v := 0) hx hb dL_seat_30 (by decide) ?_
      exact wr_iret hx hb hr hlk dL_seat_31 hP hSS (Or.inr <| Or.inr <| ⟨z, hres, rfl, (if_neg hc).symm⟩)
  · obtain ⟨hP, hSS⟩ := wr_back hO ho (hP.kept (fun j x hj => hk _ (hP j x hj).lt)) hz (fun q h1 _ => hk q h1) hL
    rcases hE E hres with rfl | rfl
    · refine vx_catch (own := "HandTablesLaw") (name := ex_IO) hown [] ⟨0, 19, 22, 36⟩ [⟨0, 19, 26, 13⟩] (by rw [htab]; rfl) (fun z9 hz9 => nomatch hz9) (by decide) (by decide) (hts _ (List.mem_cons_of_mem _ (gw_mem 272 rfl rfl))) (va_Nw.use rfl (hEx.1 _ (by decide))) hce hcv hcl ?_
      refine lv_astore (lv' := [(5, .ref q), (0, .ref (xo_a g)), (1, .int k1), (2, .int k2), (3, .int k3), (4, .ref o)]) hx hb dL_seat_22 hl (by decide) rfl (fun ls hl => ?_)
      refine lv_iconst (v := 1) hx hb dL_seat_24 (by decide) ?_
      exact wr_iret hx hb hr hlk dL_seat_25 hP hSS (Or.inl ⟨hres, rfl, rfl, rfl, rfl⟩)
    · refine vx_catch (own := "HandTablesLaw") (name := ex_IA) hown [⟨0, 19, 22, 36⟩] ⟨0, 19, 26, 13⟩ [] (by rw [htab]; rfl) (fun z9 hz9 => by
        simp only [List.mem_cons, List.not_mem_nil, or_false] at hz9
        subst hz9
        exact Or.inr ⟨by decide, ex_IO, hts _ (List.mem_cons_of_mem _ (gw_mem 272 rfl rfl)), hNc.1⟩) (by decide) (by decide) (hts _ (List.mem_cons_of_mem _ (gw_mem 88 rfl rfl))) (va_Nw.use rfl (hEx.1 _ (by decide))) hce hcv hcl ?_
      refine lv_astore (lv' := [(5, .ref q), (0, .ref (xo_a g)), (1, .int k1), (2, .int k2), (3, .int k3), (4, .ref o)]) hx hb dL_seat_26 hl (by decide) rfl (fun ls hl => ?_)
      refine lv_iconst (v := 2) hx hb dL_seat_28 (by decide) ?_
      exact wr_iret hx hb hr hlk dL_seat_29 hP hSS (Or.inr <| Or.inl ⟨hres, rfl, rfl, rfl, rfl⟩)
set_option maxHeartbeats 4000000 in
set_option maxRecDepth 100000 in
theorem cL_leave (l : Launch) (g : xo_E) (o : Nat) (T : Nat → Int64) (dk : Nat → Int32) (dn : Int32) (f : Nat → Int64) (k1 : Int32) (hap : xo_ap g) (ho : ¬ mu_fr g o) (res : mu_R) (dd : Nat) (hdd : dd ≤ 9) (hM : mu_M l yA_leave bA_leave 3 (some .boolean) dd (.ref (xo_a g) :: [.int k1]) g (xo_F g T dk dn) res) (hE : ∀ E, res = .inl E → E = ex_IO) (hV : ∀ v T1 k1 n1, res = .inr (v, T1, k1, n1) → ∃ z : Int32, v = some (.int z)) : wr_M l yL_leave bL_leave 4 [(0, 16, 19, 36)] 11 [.ref (xo_a g), .int k1, .ref o] g o T dk dn f (fun k z T1 dk1 dn1 => (res = .inl ex_IO ∧ k = 1 ∧ T1 = T ∧ dk1 = dk ∧ dn1 = dn) ∨ (∃ v : Int32, res = .inr (some (.int v), T1, dk1, dn1) ∧ k = 0 ∧ z = if v = 0 then 0 else 1)) := by
  refine va_MetW (cc := bL_leave) (maxL := 4) (ret := some .int) (hh := [(0, 16, 19, 36)]) (by decide) rfl ?_
  intro p e s m args below meth c s₁ BB hml hv
  obtain ⟨rfl, hB⟩ := hv
  have hx := BB.exec
  have hb := BB.bytes
  have hr := BB.returns
  have hlk := BB.notSynchronized
  have hts := atoms_spec (ws := wdW yL_leave bL_leave 4 (some .int) [(0, 16, 19, 36)]) BB.pre
  have hown : s.vm.findClass "HandTablesLaw" = some m.cls := findClass_of_methodNamed BB.named
  have hS : CallFix p m c bL_leave 4 s _ (wdW yL_leave bL_leave 4 (some .int) [(0, 16, 19, 36)]) "HandTablesLaw" := ⟨hx, hb, hml, hown, hts⟩
  have htab := vx_table (x := yL_leave) BB (hts _ List.mem_cons_self)
  obtain ⟨hX, hNc, hO⟩ := id hB
  obtain ⟨hTa, hEx, hP, hK⟩ := id hX
  have hl := lv_entry ([.ref (xo_a g), .int k1, .ref o]) (n := 4) (Nat.le_of_ble_eq_true rfl)
  rw [lg_entry_eq]
  generalize (lg_sl ([.ref (xo_a g), .int k1, .ref o]) ++ List.replicate (4 - (lg_sl ([.ref (xo_a g), .int k1, .ref o])).length) Slot.unset).toArray = ls at hl ⊢
  have hl : lv_has ls 4 [(0, .ref (xo_a g)), (1, .int k1), (2, .ref o)] := hl
  refine lv_aload_n hx hb dL_leave_0 rfl (lv_at hl 2 rfl) ?_
  refine lv_iconst (v := 0) hx hb dL_leave_1 (by decide) ?_
  refine lv_aload_n hx hb dL_leave_2 rfl (lv_at hl 0 rfl) ?_
  refine lv_iload_n hx hb dL_leave_3 rfl (lv_at hl 1 rfl) ?_
  refine wr_V (rest := [.int 0, .ref o]) hM rfl (fun w hw => List.mem_cons_of_mem _ hw) kL_A_leave hS (fun U hU hW => bl_xo s U hW hU hX) (xo_rc hX) ⟨by show dd + 1 ≤ 11; omega, by show 8 + (3 + 11) + 70 * dd ≤ 70 * 11; omega⟩ hl.1 rfl (Nat.le_of_ble_eq_true rfl) ⟨Nat.le_of_ble_eq_true rfl, Nat.le_of_ble_eq_true rfl⟩ dL_leave_4 (fun v T1 dk1 dn1 H L hres hP hz hk hL => ?_) (fun E q ce H L hres hce hcv hcl hz hk hL => ?_)
  · obtain ⟨z, rfl⟩ := hV v T1 dk1 dn1 hres
    obtain ⟨hP, hSS⟩ := wr_back hO ho hP hz hk hL
    refine lv_if_eq (tgt := 14) hx hb dL_leave_7 (by decide) (fun hc => ?_) (fun hc => ?_)
    · refine lv_lconst (v := 0) hx hb dL_leave_14 (by decide) ?_
      refine va_last (x := 0) hx hb hK hP (xq_D T1 dk1 dn1 f hap ho) hSS 3 0 rfl rfl (by unfold vp_in; decide) dL_leave_15 (fun H locs hP _ hSS => ?_)
      have hP : va_P g.1 cl_X (xq_W g o T1 dk1 dn1 (vp_updL f (0 : Int32).toNatClampNeg 0)) H := hP
      refine lv_goto (tgt := 22) hx hb dL_leave_16 (by decide) ?_
      refine lv_iconst (v := 0) hx hb dL_leave_22 (by decide) ?_
      exact wr_iret hx hb hr hlk dL_leave_23 hP hSS (Or.inr <| ⟨z, hres, rfl, (if_pos hc).symm⟩)
    · refine lv_lconst (v := 1) hx hb dL_leave_10 (by decide) ?_
      refine lv_goto (tgt := 15) hx hb dL_leave_11 (by decide) ?_
      refine va_last (x := 1) hx hb hK hP (xq_D T1 dk1 dn1 f hap ho) hSS 3 0 rfl rfl (by unfold vp_in; decide) dL_leave_15 (fun H locs hP _ hSS => ?_)
      have hP : va_P g.1 cl_X (xq_W g o T1 dk1 dn1 (vp_updL f (0 : Int32).toNatClampNeg 1)) H := hP
      refine lv_goto (tgt := 22) hx hb dL_leave_16 (by decide) ?_
      refine lv_iconst (v := 0) hx hb dL_leave_22 (by decide) ?_
      exact wr_iret hx hb hr hlk dL_leave_23 hP hSS (Or.inr <| ⟨z, hres, rfl, (if_neg hc).symm⟩)
  · obtain ⟨hP, hSS⟩ := wr_back hO ho (hP.kept (fun j x hj => hk _ (hP j x hj).lt)) hz (fun q h1 _ => hk q h1) hL
    have hEE := hE E hres; subst hEE
    refine vx_catch (own := "HandTablesLaw") (name := ex_IO) hown [] ⟨0, 16, 19, 36⟩ [] (by rw [htab]; rfl) (fun z9 hz9 => nomatch hz9) (by decide) (by decide) (hts _ (List.mem_cons_of_mem _ (gw_mem 272 rfl rfl))) (va_Nw.use rfl (hEx.1 _ (by decide))) hce hcv hcl ?_
    refine lv_astore_n (lv' := [(3, .ref q), (0, .ref (xo_a g)), (1, .int k1), (2, .ref o)]) hx hb dL_leave_19 rfl hl (by decide) rfl (fun ls hl => ?_)
    refine lv_iconst (v := 1) hx hb dL_leave_20 (by decide) ?_
    exact wr_iret hx hb hr hlk dL_leave_21 hP hSS (Or.inl ⟨hres, rfl, rfl, rfl, rfl⟩)
set_option maxHeartbeats 4000000 in
set_option maxRecDepth 100000 in
theorem cL_board (l : Launch) (g : xo_E) (o : Nat) (T : Nat → Int64) (dk : Nat → Int32) (dn : Int32) (f : Nat → Int64) (k1 : Int32) (hap : xo_ap g) (ho : ¬ mu_fr g o) (res : mu_R) (dd : Nat) (hdd : dd ≤ 9) (hM : mu_M l yA_board bA_board 4 (some .int) dd (.ref (xo_a g) :: [.int k1]) g (xo_F g T dk dn) res) (hE : ∀ E, res = .inl E → E = ex_IA) (hV : ∀ v T1 k1 n1, res = .inr (v, T1, k1, n1) → ∃ z : Int32, v = some (.int z)) : wr_M l yL_board bL_board 4 [(0, 9, 12, 13)] 11 [.ref (xo_a g), .int k1, .ref o] g o T dk dn f (fun k z T1 dk1 dn1 => (res = .inl ex_IA ∧ k = 1 ∧ T1 = T ∧ dk1 = dk ∧ dn1 = dn) ∨ (∃ v : Int32, res = .inr (some (.int v), T1, dk1, dn1) ∧ k = 0 ∧ z = v.toInt64)) := by
  refine va_MetW (cc := bL_board) (maxL := 4) (ret := some .int) (hh := [(0, 9, 12, 13)]) (by decide) rfl ?_
  intro p e s m args below meth c s₁ BB hml hv
  obtain ⟨rfl, hB⟩ := hv
  have hx := BB.exec
  have hb := BB.bytes
  have hr := BB.returns
  have hlk := BB.notSynchronized
  have hts := atoms_spec (ws := wdW yL_board bL_board 4 (some .int) [(0, 9, 12, 13)]) BB.pre
  have hown : s.vm.findClass "HandTablesLaw" = some m.cls := findClass_of_methodNamed BB.named
  have hS : CallFix p m c bL_board 4 s _ (wdW yL_board bL_board 4 (some .int) [(0, 9, 12, 13)]) "HandTablesLaw" := ⟨hx, hb, hml, hown, hts⟩
  have htab := vx_table (x := yL_board) BB (hts _ List.mem_cons_self)
  obtain ⟨hX, hNc, hO⟩ := id hB
  obtain ⟨hTa, hEx, hP, hK⟩ := id hX
  have hl := lv_entry ([.ref (xo_a g), .int k1, .ref o]) (n := 4) (Nat.le_of_ble_eq_true rfl)
  rw [lg_entry_eq]
  generalize (lg_sl ([.ref (xo_a g), .int k1, .ref o]) ++ List.replicate (4 - (lg_sl ([.ref (xo_a g), .int k1, .ref o])).length) Slot.unset).toArray = ls at hl ⊢
  have hl : lv_has ls 4 [(0, .ref (xo_a g)), (1, .int k1), (2, .ref o)] := hl
  refine lv_aload_n hx hb dL_board_0 rfl (lv_at hl 2 rfl) ?_
  refine lv_iconst (v := 0) hx hb dL_board_1 (by decide) ?_
  refine lv_aload_n hx hb dL_board_2 rfl (lv_at hl 0 rfl) ?_
  refine lv_iload_n hx hb dL_board_3 rfl (lv_at hl 1 rfl) ?_
  refine wr_V (rest := [.int 0, .ref o]) hM rfl (fun w hw => List.mem_cons_of_mem _ hw) kL_A_board hS (fun U hU hW => bl_xo s U hW hU hX) (xo_rc hX) ⟨by show dd + 1 ≤ 11; omega, by show 8 + (4 + 11) + 70 * dd ≤ 70 * 11; omega⟩ hl.1 rfl (Nat.le_of_ble_eq_true rfl) ⟨Nat.le_of_ble_eq_true rfl, Nat.le_of_ble_eq_true rfl⟩ dL_board_4 (fun v T1 dk1 dn1 H L hres hP hz hk hL => ?_) (fun E q ce H L hres hce hcv hcl hz hk hL => ?_)
  · obtain ⟨z, rfl⟩ := hV v T1 dk1 dn1 hres
    obtain ⟨hP, hSS⟩ := wr_back hO ho hP hz hk hL
    refine jv_i2l hx hb dL_board_7 ?_
    refine va_last (x := z.toInt64) hx hb hK hP (xq_D T1 dk1 dn1 f hap ho) hSS 3 0 rfl rfl (by unfold vp_in; decide) dL_board_8 (fun H locs hP _ hSS => ?_)
    have hP : va_P g.1 cl_X (xq_W g o T1 dk1 dn1 (vp_updL f (0 : Int32).toNatClampNeg (z.toInt64))) H := hP
    refine lv_goto (tgt := 15) hx hb dL_board_9 (by decide) ?_
    refine lv_iconst (v := 0) hx hb dL_board_15 (by decide) ?_
    exact wr_iret hx hb hr hlk dL_board_16 hP hSS (Or.inr <| ⟨z, hres, rfl, rfl⟩)
  · obtain ⟨hP, hSS⟩ := wr_back hO ho (hP.kept (fun j x hj => hk _ (hP j x hj).lt)) hz (fun q h1 _ => hk q h1) hL
    have hEE := hE E hres; subst hEE
    refine vx_catch (own := "HandTablesLaw") (name := ex_IA) hown [] ⟨0, 9, 12, 13⟩ [] (by rw [htab]; rfl) (fun z9 hz9 => nomatch hz9) (by decide) (by decide) (hts _ (List.mem_cons_of_mem _ (gw_mem 88 rfl rfl))) (va_Nw.use rfl (hEx.1 _ (by decide))) hce hcv hcl ?_
    refine lv_astore_n (lv' := [(3, .ref q), (0, .ref (xo_a g)), (1, .int k1), (2, .ref o)]) hx hb dL_board_12 rfl hl (by decide) rfl (fun ls hl => ?_)
    refine lv_iconst (v := 1) hx hb dL_board_13 (by decide) ?_
    exact wr_iret hx hb hr hlk dL_board_14 hP hSS (Or.inl ⟨hres, rfl, rfl, rfl, rfl⟩)
set_option maxHeartbeats 4000000 in
set_option maxRecDepth 100000 in
theorem cL_cards (l : Launch) (g : xo_E) (o : Nat) (T : Nat → Int64) (dk : Nat → Int32) (dn : Int32) (f : Nat → Int64) (k1 : Int32) (hap : xo_ap g) (ho : ¬ mu_fr g o) (res : mu_R) (dd : Nat) (hdd : dd ≤ 9) (hM : mu_M l yA_cards bA_cards 2 (some .long) dd (.ref (xo_a g) :: [.int k1]) g (xo_F g T dk dn) res) (hE : ∀ E, res = .inl E → E = ex_IO) (hV : ∀ v T1 k1 n1, res = .inr (v, T1, k1, n1) → ∃ z : Int64, v = some (.long z)) : wr_M l yL_cards bL_cards 4 [(0, 8, 11, 36)] 11 [.ref (xo_a g), .int k1, .ref o] g o T dk dn f (fun k z T1 dk1 dn1 => (res = .inl ex_IO ∧ k = 1 ∧ T1 = T ∧ dk1 = dk ∧ dn1 = dn) ∨ (∃ v : Int64, res = .inr (some (.long v), T1, dk1, dn1) ∧ k = 0 ∧ z = v)) := by
  refine va_MetW (cc := bL_cards) (maxL := 4) (ret := some .int) (hh := [(0, 8, 11, 36)]) (by decide) rfl ?_
  intro p e s m args below meth c s₁ BB hml hv
  obtain ⟨rfl, hB⟩ := hv
  have hx := BB.exec
  have hb := BB.bytes
  have hr := BB.returns
  have hlk := BB.notSynchronized
  have hts := atoms_spec (ws := wdW yL_cards bL_cards 4 (some .int) [(0, 8, 11, 36)]) BB.pre
  have hown : s.vm.findClass "HandTablesLaw" = some m.cls := findClass_of_methodNamed BB.named
  have hS : CallFix p m c bL_cards 4 s _ (wdW yL_cards bL_cards 4 (some .int) [(0, 8, 11, 36)]) "HandTablesLaw" := ⟨hx, hb, hml, hown, hts⟩
  have htab := vx_table (x := yL_cards) BB (hts _ List.mem_cons_self)
  obtain ⟨hX, hNc, hO⟩ := id hB
  obtain ⟨hTa, hEx, hP, hK⟩ := id hX
  have hl := lv_entry ([.ref (xo_a g), .int k1, .ref o]) (n := 4) (Nat.le_of_ble_eq_true rfl)
  rw [lg_entry_eq]
  generalize (lg_sl ([.ref (xo_a g), .int k1, .ref o]) ++ List.replicate (4 - (lg_sl ([.ref (xo_a g), .int k1, .ref o])).length) Slot.unset).toArray = ls at hl ⊢
  have hl : lv_has ls 4 [(0, .ref (xo_a g)), (1, .int k1), (2, .ref o)] := hl
  refine lv_aload_n hx hb dL_cards_0 rfl (lv_at hl 2 rfl) ?_
  refine lv_iconst (v := 0) hx hb dL_cards_1 (by decide) ?_
  refine lv_aload_n hx hb dL_cards_2 rfl (lv_at hl 0 rfl) ?_
  refine lv_iload_n hx hb dL_cards_3 rfl (lv_at hl 1 rfl) ?_
  refine wr_V (rest := [.int 0, .ref o]) hM rfl (fun w hw => List.mem_cons_of_mem _ hw) kL_A_cards hS (fun U hU hW => bl_xo s U hW hU hX) (xo_rc hX) ⟨by show dd + 1 ≤ 11; omega, by show 8 + (2 + 11) + 70 * dd ≤ 70 * 11; omega⟩ hl.1 rfl (Nat.le_of_ble_eq_true rfl) ⟨Nat.le_of_ble_eq_true rfl, Nat.le_of_ble_eq_true rfl⟩ dL_cards_4 (fun v T1 dk1 dn1 H L hres hP hz hk hL => ?_) (fun E q ce H L hres hce hcv hcl hz hk hL => ?_)
  · obtain ⟨z, rfl⟩ := hV v T1 dk1 dn1 hres
    obtain ⟨hP, hSS⟩ := wr_back hO ho hP hz hk hL
    refine va_last (x := z) hx hb hK hP (xq_D T1 dk1 dn1 f hap ho) hSS 3 0 rfl rfl (by unfold vp_in; decide) dL_cards_7 (fun H locs hP _ hSS => ?_)
    have hP : va_P g.1 cl_X (xq_W g o T1 dk1 dn1 (vp_updL f (0 : Int32).toNatClampNeg z)) H := hP
    refine lv_goto (tgt := 14) hx hb dL_cards_8 (by decide) ?_
    refine lv_iconst (v := 0) hx hb dL_cards_14 (by decide) ?_
    exact wr_iret hx hb hr hlk dL_cards_15 hP hSS (Or.inr <| ⟨z, hres, rfl, rfl⟩)
  · obtain ⟨hP, hSS⟩ := wr_back hO ho (hP.kept (fun j x hj => hk _ (hP j x hj).lt)) hz (fun q h1 _ => hk q h1) hL
    have hEE := hE E hres; subst hEE
    refine vx_catch (own := "HandTablesLaw") (name := ex_IO) hown [] ⟨0, 8, 11, 36⟩ [] (by rw [htab]; rfl) (fun z9 hz9 => nomatch hz9) (by decide) (by decide) (hts _ (List.mem_cons_of_mem _ (gw_mem 272 rfl rfl))) (va_Nw.use rfl (hEx.1 _ (by decide))) hce hcv hcl ?_
    refine lv_astore_n (lv' := [(3, .ref q), (0, .ref (xo_a g)), (1, .int k1), (2, .ref o)]) hx hb dL_cards_11 rfl hl (by decide) rfl (fun ls hl => ?_)
    refine lv_iconst (v := 1) hx hb dL_cards_12 (by decide) ?_
    exact wr_iret hx hb hr hlk dL_cards_13 hP hSS (Or.inl ⟨hres, rfl, rfl, rfl, rfl⟩)
set_option maxHeartbeats 4000000 in
set_option maxRecDepth 100000 in
theorem cL_hand (l : Launch) (g : xo_E) (o : Nat) (T : Nat → Int64) (dk : Nat → Int32) (dn : Int32) (f : Nat → Int64) (k1 : Int32) (hap : xo_ap g) (ho : ¬ mu_fr g o) (res : mu_R) (dd : Nat) (hdd : dd ≤ 9) (hM : mu_M l yA_hand bA_hand 2 (some .int) dd (.ref (xo_a g) :: [.int k1]) g (xo_F g T dk dn) res) (hE : ∀ E, res = .inl E → E = ex_IO ∨ E = ex_IS) (hV : ∀ v T1 k1 n1, res = .inr (v, T1, k1, n1) → ∃ z : Int32, v = some (.int z)) : wr_M l yL_hand bL_hand 4 [(0, 9, 12, 36), (0, 9, 15, 52)] 11 [.ref (xo_a g), .int k1, .ref o] g o T dk dn f (fun k z T1 dk1 dn1 => (res = .inl ex_IO ∧ k = 1 ∧ T1 = T ∧ dk1 = dk ∧ dn1 = dn) ∨ (res = .inl ex_IS ∧ k = 2 ∧ T1 = T ∧ dk1 = dk ∧ dn1 = dn) ∨ (∃ v : Int32, res = .inr (some (.int v), T1, dk1, dn1) ∧ k = 0 ∧ z = v.toInt64)) := by
  refine va_MetW (cc := bL_hand) (maxL := 4) (ret := some .int) (hh := [(0, 9, 12, 36), (0, 9, 15, 52)]) (by decide) rfl ?_
  intro p e s m args below meth c s₁ BB hml hv
  obtain ⟨rfl, hB⟩ := hv
  have hx := BB.exec
  have hb := BB.bytes
  have hr := BB.returns
  have hlk := BB.notSynchronized
  have hts := atoms_spec (ws := wdW yL_hand bL_hand 4 (some .int) [(0, 9, 12, 36), (0, 9, 15, 52)]) BB.pre
  have hown : s.vm.findClass "HandTablesLaw" = some m.cls := findClass_of_methodNamed BB.named
  have hS : CallFix p m c bL_hand 4 s _ (wdW yL_hand bL_hand 4 (some .int) [(0, 9, 12, 36), (0, 9, 15, 52)]) "HandTablesLaw" := ⟨hx, hb, hml, hown, hts⟩
  have htab := vx_table (x := yL_hand) BB (hts _ List.mem_cons_self)
  obtain ⟨hX, hNc, hO⟩ := id hB
  obtain ⟨hTa, hEx, hP, hK⟩ := id hX
  have hl := lv_entry ([.ref (xo_a g), .int k1, .ref o]) (n := 4) (Nat.le_of_ble_eq_true rfl)
  rw [lg_entry_eq]
  generalize (lg_sl ([.ref (xo_a g), .int k1, .ref o]) ++ List.replicate (4 - (lg_sl ([.ref (xo_a g), .int k1, .ref o])).length) Slot.unset).toArray = ls at hl ⊢
  have hl : lv_has ls 4 [(0, .ref (xo_a g)), (1, .int k1), (2, .ref o)] := hl
  refine lv_aload_n hx hb dL_hand_0 rfl (lv_at hl 2 rfl) ?_
  refine lv_iconst (v := 0) hx hb dL_hand_1 (by decide) ?_
  refine lv_aload_n hx hb dL_hand_2 rfl (lv_at hl 0 rfl) ?_
  refine lv_iload_n hx hb dL_hand_3 rfl (lv_at hl 1 rfl) ?_
  refine wr_V (rest := [.int 0, .ref o]) hM rfl (fun w hw => List.mem_cons_of_mem _ hw) kL_A_hand hS (fun U hU hW => bl_xo s U hW hU hX) (xo_rc hX) ⟨by show dd + 1 ≤ 11; omega, by show 8 + (2 + 11) + 70 * dd ≤ 70 * 11; omega⟩ hl.1 rfl (Nat.le_of_ble_eq_true rfl) ⟨Nat.le_of_ble_eq_true rfl, Nat.le_of_ble_eq_true rfl⟩ dL_hand_4 (fun v T1 dk1 dn1 H L hres hP hz hk hL => ?_) (fun E q ce H L hres hce hcv hcl hz hk hL => ?_)
  · obtain ⟨z, rfl⟩ := hV v T1 dk1 dn1 hres
    obtain ⟨hP, hSS⟩ := wr_back hO ho hP hz hk hL
    refine jv_i2l hx hb dL_hand_7 ?_
    refine va_last (x := z.toInt64) hx hb hK hP (xq_D T1 dk1 dn1 f hap ho) hSS 3 0 rfl rfl (by unfold vp_in; decide) dL_hand_8 (fun H locs hP _ hSS => ?_)
    have hP : va_P g.1 cl_X (xq_W g o T1 dk1 dn1 (vp_updL f (0 : Int32).toNatClampNeg (z.toInt64))) H := hP
    refine lv_goto (tgt := 18) hx hb dL_hand_9 (by decide) ?_
    refine lv_iconst (v := 0) hx hb dL_hand_18 (by decide) ?_
    exact wr_iret hx hb hr hlk dL_hand_19 hP hSS (Or.inr <| Or.inr <| ⟨z, hres, rfl, rfl⟩)
  · obtain ⟨hP, hSS⟩ := wr_back hO ho (hP.kept (fun j x hj => hk _ (hP j x hj).lt)) hz (fun q h1 _ => hk q h1) hL
    rcases hE E hres with rfl | rfl
    · refine vx_catch (own := "HandTablesLaw") (name := ex_IO) hown [] ⟨0, 9, 12, 36⟩ [⟨0, 9, 15, 52⟩] (by rw [htab]; rfl) (fun z9 hz9 => nomatch hz9) (by decide) (by decide) (hts _ (List.mem_cons_of_mem _ (gw_mem 272 rfl rfl))) (va_Nw.use rfl (hEx.1 _ (by decide))) hce hcv hcl ?_
      refine lv_astore_n (lv' := [(3, .ref q), (0, .ref (xo_a g)), (1, .int k1), (2, .ref o)]) hx hb dL_hand_12 rfl hl (by decide) rfl (fun ls hl => ?_)
      refine lv_iconst (v := 1) hx hb dL_hand_13 (by decide) ?_
      exact wr_iret hx hb hr hlk dL_hand_14 hP hSS (Or.inl ⟨hres, rfl, rfl, rfl, rfl⟩)
    · refine vx_catch (own := "HandTablesLaw") (name := ex_IS) hown [⟨0, 9, 12, 36⟩] ⟨0, 9, 15, 52⟩ [] (by rw [htab]; rfl) (fun z9 hz9 => by
        simp only [List.mem_cons, List.not_mem_nil, or_false] at hz9
        subst hz9
        exact Or.inr ⟨by decide, ex_IO, hts _ (List.mem_cons_of_mem _ (gw_mem 272 rfl rfl)), hNc.2.1⟩) (by decide) (by decide) (hts _ (List.mem_cons_of_mem _ (gw_mem 332 rfl rfl))) (va_Nw.use rfl (hEx.1 _ (by decide))) hce hcv hcl ?_
      refine lv_astore_n (lv' := [(3, .ref q), (0, .ref (xo_a g)), (1, .int k1), (2, .ref o)]) hx hb dL_hand_15 rfl hl (by decide) rfl (fun ls hl => ?_)
      refine lv_iconst (v := 2) hx hb dL_hand_16 (by decide) ?_
      exact wr_iret hx hb hr hlk dL_hand_17 hP hSS (Or.inr <| Or.inl ⟨hres, rfl, rfl, rfl, rfl⟩)
set_option maxHeartbeats 4000000 in
set_option maxRecDepth 100000 in
theorem cL_ahead (l : Launch) (g : xo_E) (o : Nat) (T : Nat → Int64) (dk : Nat → Int32) (dn : Int32) (f : Nat → Int64)  (hap : xo_ap g) (ho : ¬ mu_fr g o) (res : mu_R) (dd : Nat) (hdd : dd ≤ 9) (hM : mu_M l yA_ahead bA_ahead 2 (some .int) dd (.ref (xo_a g) :: []) g (xo_F g T dk dn) res) (hE : ∀ E, res = .inl E → E = ex_IS) (hV : ∀ v T1 k1 n1, res = .inr (v, T1, k1, n1) → ∃ z : Int32, v = some (.int z)) : wr_M l yL_ahead bL_ahead 3 [(0, 8, 11, 52)] 11 [.ref (xo_a g), .ref o] g o T dk dn f (fun k z T1 dk1 dn1 => (res = .inl ex_IS ∧ k = 1 ∧ T1 = T ∧ dk1 = dk ∧ dn1 = dn) ∨ (∃ v : Int32, res = .inr (some (.int v), T1, dk1, dn1) ∧ k = 0 ∧ z = v.toInt64)) := by
  refine va_MetW (cc := bL_ahead) (maxL := 3) (ret := some .int) (hh := [(0, 8, 11, 52)]) (by decide) rfl ?_
  intro p e s m args below meth c s₁ BB hml hv
  obtain ⟨rfl, hB⟩ := hv
  have hx := BB.exec
  have hb := BB.bytes
  have hr := BB.returns
  have hlk := BB.notSynchronized
  have hts := atoms_spec (ws := wdW yL_ahead bL_ahead 3 (some .int) [(0, 8, 11, 52)]) BB.pre
  have hown : s.vm.findClass "HandTablesLaw" = some m.cls := findClass_of_methodNamed BB.named
  have hS : CallFix p m c bL_ahead 3 s _ (wdW yL_ahead bL_ahead 3 (some .int) [(0, 8, 11, 52)]) "HandTablesLaw" := ⟨hx, hb, hml, hown, hts⟩
  have htab := vx_table (x := yL_ahead) BB (hts _ List.mem_cons_self)
  obtain ⟨hX, hNc, hO⟩ := id hB
  obtain ⟨hTa, hEx, hP, hK⟩ := id hX
  have hl := lv_entry ([.ref (xo_a g), .ref o]) (n := 3) (Nat.le_of_ble_eq_true rfl)
  rw [lg_entry_eq]
  generalize (lg_sl ([.ref (xo_a g), .ref o]) ++ List.replicate (3 - (lg_sl ([.ref (xo_a g), .ref o])).length) Slot.unset).toArray = ls at hl ⊢
  have hl : lv_has ls 3 [(0, .ref (xo_a g)), (1, .ref o)] := hl
  refine lv_aload_n hx hb dL_ahead_0 rfl (lv_at hl 1 rfl) ?_
  refine lv_iconst (v := 0) hx hb dL_ahead_1 (by decide) ?_
  refine lv_aload_n hx hb dL_ahead_2 rfl (lv_at hl 0 rfl) ?_
  refine wr_V (rest := [.int 0, .ref o]) hM rfl (fun w hw => List.mem_cons_of_mem _ hw) kL_A_ahead hS (fun U hU hW => bl_xo s U hW hU hX) (xo_rc hX) ⟨by show dd + 1 ≤ 11; omega, by show 8 + (2 + 11) + 70 * dd ≤ 70 * 11; omega⟩ hl.1 rfl (Nat.le_of_ble_eq_true rfl) ⟨Nat.le_of_ble_eq_true rfl, Nat.le_of_ble_eq_true rfl⟩ dL_ahead_3 (fun v T1 dk1 dn1 H L hres hP hz hk hL => ?_) (fun E q ce H L hres hce hcv hcl hz hk hL => ?_)
  · obtain ⟨z, rfl⟩ := hV v T1 dk1 dn1 hres
    obtain ⟨hP, hSS⟩ := wr_back hO ho hP hz hk hL
    refine jv_i2l hx hb dL_ahead_6 ?_
    refine va_last (x := z.toInt64) hx hb hK hP (xq_D T1 dk1 dn1 f hap ho) hSS 3 0 rfl rfl (by unfold vp_in; decide) dL_ahead_7 (fun H locs hP _ hSS => ?_)
    have hP : va_P g.1 cl_X (xq_W g o T1 dk1 dn1 (vp_updL f (0 : Int32).toNatClampNeg (z.toInt64))) H := hP
    refine lv_goto (tgt := 14) hx hb dL_ahead_8 (by decide) ?_
    refine lv_iconst (v := 0) hx hb dL_ahead_14 (by decide) ?_
    exact wr_iret hx hb hr hlk dL_ahead_15 hP hSS (Or.inr <| ⟨z, hres, rfl, rfl⟩)
  · obtain ⟨hP, hSS⟩ := wr_back hO ho (hP.kept (fun j x hj => hk _ (hP j x hj).lt)) hz (fun q h1 _ => hk q h1) hL
    have hEE := hE E hres; subst hEE
    refine vx_catch (own := "HandTablesLaw") (name := ex_IS) hown [] ⟨0, 8, 11, 52⟩ [] (by rw [htab]; rfl) (fun z9 hz9 => nomatch hz9) (by decide) (by decide) (hts _ (List.mem_cons_of_mem _ (gw_mem 332 rfl rfl))) (va_Nw.use rfl (hEx.1 _ (by decide))) hce hcv hcl ?_
    refine lv_astore_n (lv' := [(2, .ref q), (0, .ref (xo_a g)), (1, .ref o)]) hx hb dL_ahead_11 rfl hl (by decide) rfl (fun ls hl => ?_)
    refine lv_iconst (v := 1) hx hb dL_ahead_12 (by decide) ?_
    exact wr_iret hx hb hr hlk dL_ahead_13 hP hSS (Or.inl ⟨hres, rfl, rfl, rfl, rfl⟩)
set_option maxHeartbeats 4000000 in
set_option maxRecDepth 100000 in
theorem cL_boards (l : Launch) (g : xo_E) (o : Nat) (T : Nat → Int64) (dk : Nat → Int32) (dn : Int32) (f : Nat → Int64)  (hap : xo_ap g) (ho : ¬ mu_fr g o) (res : mu_R) (dd : Nat) (hdd : dd ≤ 9) (hM : mu_M l yA_boards bA_boards 2 (some .int) dd (.ref (xo_a g) :: []) g (xo_F g T dk dn) res) (hE : ∀ E, res = .inl E → E = ex_IS) (hV : ∀ v T1 k1 n1, res = .inr (v, T1, k1, n1) → ∃ z : Int32, v = some (.int z)) : wr_M l yL_boards bL_boards 3 [(0, 8, 11, 52)] 11 [.ref (xo_a g), .ref o] g o T dk dn f (fun k z T1 dk1 dn1 => (res = .inl ex_IS ∧ k = 1 ∧ T1 = T ∧ dk1 = dk ∧ dn1 = dn) ∨ (∃ v : Int32, res = .inr (some (.int v), T1, dk1, dn1) ∧ k = 0 ∧ z = v.toInt64)) := by
  refine va_MetW (cc := bL_boards) (maxL := 3) (ret := some .int) (hh := [(0, 8, 11, 52)]) (by decide) rfl ?_
  intro p e s m args below meth c s₁ BB hml hv
  obtain ⟨rfl, hB⟩ := hv
  have hx := BB.exec
  have hb := BB.bytes
  have hr := BB.returns
  have hlk := BB.notSynchronized
  have hts := atoms_spec (ws := wdW yL_boards bL_boards 3 (some .int) [(0, 8, 11, 52)]) BB.pre
  have hown : s.vm.findClass "HandTablesLaw" = some m.cls := findClass_of_methodNamed BB.named
  have hS : CallFix p m c bL_boards 3 s _ (wdW yL_boards bL_boards 3 (some .int) [(0, 8, 11, 52)]) "HandTablesLaw" := ⟨hx, hb, hml, hown, hts⟩
  have htab := vx_table (x := yL_boards) BB (hts _ List.mem_cons_self)
  obtain ⟨hX, hNc, hO⟩ := id hB
  obtain ⟨hTa, hEx, hP, hK⟩ := id hX
  have hl := lv_entry ([.ref (xo_a g), .ref o]) (n := 3) (Nat.le_of_ble_eq_true rfl)
  rw [lg_entry_eq]
  generalize (lg_sl ([.ref (xo_a g), .ref o]) ++ List.replicate (3 - (lg_sl ([.ref (xo_a g), .ref o])).length) Slot.unset).toArray = ls at hl ⊢
  have hl : lv_has ls 3 [(0, .ref (xo_a g)), (1, .ref o)] := hl
  refine lv_aload_n hx hb dL_boards_0 rfl (lv_at hl 1 rfl) ?_
  refine lv_iconst (v := 0) hx hb dL_boards_1 (by decide) ?_
  refine lv_aload_n hx hb dL_boards_2 rfl (lv_at hl 0 rfl) ?_
  refine wr_V (rest := [.int 0, .ref o]) hM rfl (fun w hw => List.mem_cons_of_mem _ hw) kL_A_boards hS (fun U hU hW => bl_xo s U hW hU hX) (xo_rc hX) ⟨by show dd + 1 ≤ 11; omega, by show 8 + (2 + 11) + 70 * dd ≤ 70 * 11; omega⟩ hl.1 rfl (Nat.le_of_ble_eq_true rfl) ⟨Nat.le_of_ble_eq_true rfl, Nat.le_of_ble_eq_true rfl⟩ dL_boards_3 (fun v T1 dk1 dn1 H L hres hP hz hk hL => ?_) (fun E q ce H L hres hce hcv hcl hz hk hL => ?_)
  · obtain ⟨z, rfl⟩ := hV v T1 dk1 dn1 hres
    obtain ⟨hP, hSS⟩ := wr_back hO ho hP hz hk hL
    refine jv_i2l hx hb dL_boards_6 ?_
    refine va_last (x := z.toInt64) hx hb hK hP (xq_D T1 dk1 dn1 f hap ho) hSS 3 0 rfl rfl (by unfold vp_in; decide) dL_boards_7 (fun H locs hP _ hSS => ?_)
    have hP : va_P g.1 cl_X (xq_W g o T1 dk1 dn1 (vp_updL f (0 : Int32).toNatClampNeg (z.toInt64))) H := hP
    refine lv_goto (tgt := 14) hx hb dL_boards_8 (by decide) ?_
    refine lv_iconst (v := 0) hx hb dL_boards_14 (by decide) ?_
    exact wr_iret hx hb hr hlk dL_boards_15 hP hSS (Or.inr <| ⟨z, hres, rfl, rfl⟩)
  · obtain ⟨hP, hSS⟩ := wr_back hO ho (hP.kept (fun j x hj => hk _ (hP j x hj).lt)) hz (fun q h1 _ => hk q h1) hL
    have hEE := hE E hres; subst hEE
    refine vx_catch (own := "HandTablesLaw") (name := ex_IS) hown [] ⟨0, 8, 11, 52⟩ [] (by rw [htab]; rfl) (fun z9 hz9 => nomatch hz9) (by decide) (by decide) (hts _ (List.mem_cons_of_mem _ (gw_mem 332 rfl rfl))) (va_Nw.use rfl (hEx.1 _ (by decide))) hce hcv hcl ?_
    refine lv_astore_n (lv' := [(2, .ref q), (0, .ref (xo_a g)), (1, .ref o)]) hx hb dL_boards_11 rfl hl (by decide) rfl (fun ls hl => ?_)
    refine lv_iconst (v := 1) hx hb dL_boards_12 (by decide) ?_
    exact wr_iret hx hb hr hlk dL_boards_13 hP hSS (Or.inl ⟨hres, rfl, rfl, rfl, rfl⟩)
set_option maxHeartbeats 4000000 in
set_option maxRecDepth 100000 in
theorem cL_wins (l : Launch) (g : xo_E) (o : Nat) (T : Nat → Int64) (dk : Nat → Int32) (dn : Int32) (f : Nat → Int64) (k1 : Int32) (k2 : Int32) (hap : xo_ap g) (ho : ¬ mu_fr g o) (res : mu_R) (dd : Nat) (hdd : dd ≤ 9) (hM : mu_M l yA_wins bA_wins 3 (some .int) dd (.ref (xo_a g) :: [.int k1, .int k2]) g (xo_F g T dk dn) res) (hE : ∀ E, res = .inl E → E = ex_IO ∨ E = ex_IA ∨ E = ex_IS) (hV : ∀ v T1 k1 n1, res = .inr (v, T1, k1, n1) → ∃ z : Int32, v = some (.int z)) : wr_M l yL_wins bL_wins 5 [(0, 10, 13, 36), (0, 10, 17, 13), (0, 10, 21, 52)] 11 [.ref (xo_a g), .int k1, .int k2, .ref o] g o T dk dn f (fun k z T1 dk1 dn1 => (res = .inl ex_IO ∧ k = 1 ∧ T1 = T ∧ dk1 = dk ∧ dn1 = dn) ∨ (res = .inl ex_IA ∧ k = 2 ∧ T1 = T ∧ dk1 = dk ∧ dn1 = dn) ∨ (res = .inl ex_IS ∧ k = 3 ∧ T1 = T ∧ dk1 = dk ∧ dn1 = dn) ∨ (∃ v : Int32, res = .inr (some (.int v), T1, dk1, dn1) ∧ k = 0 ∧ z = v.toInt64)) := by
  refine va_MetW (cc := bL_wins) (maxL := 5) (ret := some .int) (hh := [(0, 10, 13, 36), (0, 10, 17, 13), (0, 10, 21, 52)]) (by decide) rfl ?_
  intro p e s m args below meth c s₁ BB hml hv
  obtain ⟨rfl, hB⟩ := hv
  have hx := BB.exec
  have hb := BB.bytes
  have hr := BB.returns
  have hlk := BB.notSynchronized
  have hts := atoms_spec (ws := wdW yL_wins bL_wins 5 (some .int) [(0, 10, 13, 36), (0, 10, 17, 13), (0, 10, 21, 52)]) BB.pre
  have hown : s.vm.findClass "HandTablesLaw" = some m.cls := findClass_of_methodNamed BB.named
  have hS : CallFix p m c bL_wins 5 s _ (wdW yL_wins bL_wins 5 (some .int) [(0, 10, 13, 36), (0, 10, 17, 13), (0, 10, 21, 52)]) "HandTablesLaw" := ⟨hx, hb, hml, hown, hts⟩
  have htab := vx_table (x := yL_wins) BB (hts _ List.mem_cons_self)
  obtain ⟨hX, hNc, hO⟩ := id hB
  obtain ⟨hTa, hEx, hP, hK⟩ := id hX
  have hl := lv_entry ([.ref (xo_a g), .int k1, .int k2, .ref o]) (n := 5) (Nat.le_of_ble_eq_true rfl)
  rw [lg_entry_eq]
  generalize (lg_sl ([.ref (xo_a g), .int k1, .int k2, .ref o]) ++ List.replicate (5 - (lg_sl ([.ref (xo_a g), .int k1, .int k2, .ref o])).length) Slot.unset).toArray = ls at hl ⊢
  have hl : lv_has ls 5 [(0, .ref (xo_a g)), (1, .int k1), (2, .int k2), (3, .ref o)] := hl
  refine lv_aload_n hx hb dL_wins_0 rfl (lv_at hl 3 rfl) ?_
  refine lv_iconst (v := 0) hx hb dL_wins_1 (by decide) ?_
  refine lv_aload_n hx hb dL_wins_2 rfl (lv_at hl 0 rfl) ?_
  refine lv_iload_n hx hb dL_wins_3 rfl (lv_at hl 1 rfl) ?_
  refine lv_iload_n hx hb dL_wins_4 rfl (lv_at hl 2 rfl) ?_
  refine wr_V (rest := [.int 0, .ref o]) hM rfl (fun w hw => List.mem_cons_of_mem _ hw) kL_A_wins hS (fun U hU hW => bl_xo s U hW hU hX) (xo_rc hX) ⟨by show dd + 1 ≤ 11; omega, by show 8 + (3 + 11) + 70 * dd ≤ 70 * 11; omega⟩ hl.1 rfl (Nat.le_of_ble_eq_true rfl) ⟨Nat.le_of_ble_eq_true rfl, Nat.le_of_ble_eq_true rfl⟩ dL_wins_5 (fun v T1 dk1 dn1 H L hres hP hz hk hL => ?_) (fun E q ce H L hres hce hcv hcl hz hk hL => ?_)
  · obtain ⟨z, rfl⟩ := hV v T1 dk1 dn1 hres
    obtain ⟨hP, hSS⟩ := wr_back hO ho hP hz hk hL
    refine jv_i2l hx hb dL_wins_8 ?_
    refine va_last (x := z.toInt64) hx hb hK hP (xq_D T1 dk1 dn1 f hap ho) hSS 3 0 rfl rfl (by unfold vp_in; decide) dL_wins_9 (fun H locs hP _ hSS => ?_)
    have hP : va_P g.1 cl_X (xq_W g o T1 dk1 dn1 (vp_updL f (0 : Int32).toNatClampNeg (z.toInt64))) H := hP
    refine lv_goto (tgt := 25) hx hb dL_wins_10 (by decide) ?_
    refine lv_iconst (v := 0) hx hb dL_wins_25 (by decide) ?_
    exact wr_iret hx hb hr hlk dL_wins_26 hP hSS (Or.inr <| Or.inr <| Or.inr <| ⟨z, hres, rfl, rfl⟩)
  · obtain ⟨hP, hSS⟩ := wr_back hO ho (hP.kept (fun j x hj => hk _ (hP j x hj).lt)) hz (fun q h1 _ => hk q h1) hL
    rcases hE E hres with rfl | rfl | rfl
    · refine vx_catch (own := "HandTablesLaw") (name := ex_IO) hown [] ⟨0, 10, 13, 36⟩ [⟨0, 10, 17, 13⟩, ⟨0, 10, 21, 52⟩] (by rw [htab]; rfl) (fun z9 hz9 => nomatch hz9) (by decide) (by decide) (hts _ (List.mem_cons_of_mem _ (gw_mem 272 rfl rfl))) (va_Nw.use rfl (hEx.1 _ (by decide))) hce hcv hcl ?_
      refine lv_astore (lv' := [(4, .ref q), (0, .ref (xo_a g)), (1, .int k1), (2, .int k2), (3, .ref o)]) hx hb dL_wins_13 hl (by decide) rfl (fun ls hl => ?_)
      refine lv_iconst (v := 1) hx hb dL_wins_15 (by decide) ?_
      exact wr_iret hx hb hr hlk dL_wins_16 hP hSS (Or.inl ⟨hres, rfl, rfl, rfl, rfl⟩)
    · refine vx_catch (own := "HandTablesLaw") (name := ex_IA) hown [⟨0, 10, 13, 36⟩] ⟨0, 10, 17, 13⟩ [⟨0, 10, 21, 52⟩] (by rw [htab]; rfl) (fun z9 hz9 => by
        simp only [List.mem_cons, List.not_mem_nil, or_false] at hz9
        subst hz9
        exact Or.inr ⟨by decide, ex_IO, hts _ (List.mem_cons_of_mem _ (gw_mem 272 rfl rfl)), hNc.1⟩) (by decide) (by decide) (hts _ (List.mem_cons_of_mem _ (gw_mem 88 rfl rfl))) (va_Nw.use rfl (hEx.1 _ (by decide))) hce hcv hcl ?_
      refine lv_astore (lv' := [(4, .ref q), (0, .ref (xo_a g)), (1, .int k1), (2, .int k2), (3, .ref o)]) hx hb dL_wins_17 hl (by decide) rfl (fun ls hl => ?_)
      refine lv_iconst (v := 2) hx hb dL_wins_19 (by decide) ?_
      exact wr_iret hx hb hr hlk dL_wins_20 hP hSS (Or.inr <| Or.inl ⟨hres, rfl, rfl, rfl, rfl⟩)
    · refine vx_catch (own := "HandTablesLaw") (name := ex_IS) hown [⟨0, 10, 13, 36⟩, ⟨0, 10, 17, 13⟩] ⟨0, 10, 21, 52⟩ [] (by rw [htab]; rfl) (fun z9 hz9 => by
        simp only [List.mem_cons, List.not_mem_nil, or_false] at hz9
        rcases hz9 with rfl | rfl
        · exact Or.inr ⟨by decide, ex_IO, hts _ (List.mem_cons_of_mem _ (gw_mem 272 rfl rfl)), hNc.2.1⟩
        · exact Or.inr ⟨by decide, ex_IA, hts _ (List.mem_cons_of_mem _ (gw_mem 88 rfl rfl)), hNc.2.2⟩) (by decide) (by decide) (hts _ (List.mem_cons_of_mem _ (gw_mem 332 rfl rfl))) (va_Nw.use rfl (hEx.1 _ (by decide))) hce hcv hcl ?_
      refine lv_astore (lv' := [(4, .ref q), (0, .ref (xo_a g)), (1, .int k1), (2, .int k2), (3, .ref o)]) hx hb dL_wins_21 hl (by decide) rfl (fun ls hl => ?_)
      refine lv_iconst (v := 3) hx hb dL_wins_23 (by decide) ?_
      exact wr_iret hx hb hr hlk dL_wins_24 hP hSS (Or.inr <| Or.inr <| Or.inl ⟨hres, rfl, rfl, rfl, rfl⟩)
set_option maxHeartbeats 4000000 in
set_option maxRecDepth 100000 in
theorem cL_outs (l : Launch) (g : xo_E) (o : Nat) (T : Nat → Int64) (dk : Nat → Int32) (dn : Int32) (f : Nat → Int64) (k1 : Int32) (hap : xo_ap g) (ho : ¬ mu_fr g o) (res : mu_R) (dd : Nat) (hdd : dd ≤ 9) (hM : mu_M l yA_outs bA_outs 9 (some .long) dd (.ref (xo_a g) :: [.int k1]) g (xo_F g T dk dn) res) (hE : ∀ E, res = .inl E → E = ex_IO ∨ E = ex_IS) (hV : ∀ v T1 k1 n1, res = .inr (v, T1, k1, n1) → ∃ z : Int64, v = some (.long z)) : wr_M l yL_outs bL_outs 4 [(0, 8, 11, 36), (0, 8, 14, 52)] 11 [.ref (xo_a g), .int k1, .ref o] g o T dk dn f (fun k z T1 dk1 dn1 => (res = .inl ex_IO ∧ k = 1 ∧ T1 = T ∧ dk1 = dk ∧ dn1 = dn) ∨ (res = .inl ex_IS ∧ k = 2 ∧ T1 = T ∧ dk1 = dk ∧ dn1 = dn) ∨ (∃ v : Int64, res = .inr (some (.long v), T1, dk1, dn1) ∧ k = 0 ∧ z = v)) := by
  refine va_MetW (cc := bL_outs) (maxL := 4) (ret := some .int) (hh := [(0, 8, 11, 36), (0, 8, 14, 52)]) (by decide) rfl ?_
  intro p e s m args below meth c s₁ BB hml hv
  obtain ⟨rfl, hB⟩ := hv
  have hx := BB.exec
  have hb := BB.bytes
  have hr := BB.returns
  have hlk := BB.notSynchronized
  have hts := atoms_spec (ws := wdW yL_outs bL_outs 4 (some .int) [(0, 8, 11, 36), (0, 8, 14, 52)]) BB.pre
  have hown : s.vm.findClass "HandTablesLaw" = some m.cls := findClass_of_methodNamed BB.named
  have hS : CallFix p m c bL_outs 4 s _ (wdW yL_outs bL_outs 4 (some .int) [(0, 8, 11, 36), (0, 8, 14, 52)]) "HandTablesLaw" := ⟨hx, hb, hml, hown, hts⟩
  have htab := vx_table (x := yL_outs) BB (hts _ List.mem_cons_self)
  obtain ⟨hX, hNc, hO⟩ := id hB
  obtain ⟨hTa, hEx, hP, hK⟩ := id hX
  have hl := lv_entry ([.ref (xo_a g), .int k1, .ref o]) (n := 4) (Nat.le_of_ble_eq_true rfl)
  rw [lg_entry_eq]
  generalize (lg_sl ([.ref (xo_a g), .int k1, .ref o]) ++ List.replicate (4 - (lg_sl ([.ref (xo_a g), .int k1, .ref o])).length) Slot.unset).toArray = ls at hl ⊢
  have hl : lv_has ls 4 [(0, .ref (xo_a g)), (1, .int k1), (2, .ref o)] := hl
  refine lv_aload_n hx hb dL_outs_0 rfl (lv_at hl 2 rfl) ?_
  refine lv_iconst (v := 0) hx hb dL_outs_1 (by decide) ?_
  refine lv_aload_n hx hb dL_outs_2 rfl (lv_at hl 0 rfl) ?_
  refine lv_iload_n hx hb dL_outs_3 rfl (lv_at hl 1 rfl) ?_
  refine wr_V (rest := [.int 0, .ref o]) hM rfl (fun w hw => List.mem_cons_of_mem _ hw) kL_A_outs hS (fun U hU hW => bl_xo s U hW hU hX) (xo_rc hX) ⟨by show dd + 1 ≤ 11; omega, by show 8 + (9 + 11) + 70 * dd ≤ 70 * 11; omega⟩ hl.1 rfl (Nat.le_of_ble_eq_true rfl) ⟨Nat.le_of_ble_eq_true rfl, Nat.le_of_ble_eq_true rfl⟩ dL_outs_4 (fun v T1 dk1 dn1 H L hres hP hz hk hL => ?_) (fun E q ce H L hres hce hcv hcl hz hk hL => ?_)
  · obtain ⟨z, rfl⟩ := hV v T1 dk1 dn1 hres
    obtain ⟨hP, hSS⟩ := wr_back hO ho hP hz hk hL
    refine va_last (x := z) hx hb hK hP (xq_D T1 dk1 dn1 f hap ho) hSS 3 0 rfl rfl (by unfold vp_in; decide) dL_outs_7 (fun H locs hP _ hSS => ?_)
    have hP : va_P g.1 cl_X (xq_W g o T1 dk1 dn1 (vp_updL f (0 : Int32).toNatClampNeg z)) H := hP
    refine lv_goto (tgt := 17) hx hb dL_outs_8 (by decide) ?_
    refine lv_iconst (v := 0) hx hb dL_outs_17 (by decide) ?_
    exact wr_iret hx hb hr hlk dL_outs_18 hP hSS (Or.inr <| Or.inr <| ⟨z, hres, rfl, rfl⟩)
  · obtain ⟨hP, hSS⟩ := wr_back hO ho (hP.kept (fun j x hj => hk _ (hP j x hj).lt)) hz (fun q h1 _ => hk q h1) hL
    rcases hE E hres with rfl | rfl
    · refine vx_catch (own := "HandTablesLaw") (name := ex_IO) hown [] ⟨0, 8, 11, 36⟩ [⟨0, 8, 14, 52⟩] (by rw [htab]; rfl) (fun z9 hz9 => nomatch hz9) (by decide) (by decide) (hts _ (List.mem_cons_of_mem _ (gw_mem 272 rfl rfl))) (va_Nw.use rfl (hEx.1 _ (by decide))) hce hcv hcl ?_
      refine lv_astore_n (lv' := [(3, .ref q), (0, .ref (xo_a g)), (1, .int k1), (2, .ref o)]) hx hb dL_outs_11 rfl hl (by decide) rfl (fun ls hl => ?_)
      refine lv_iconst (v := 1) hx hb dL_outs_12 (by decide) ?_
      exact wr_iret hx hb hr hlk dL_outs_13 hP hSS (Or.inl ⟨hres, rfl, rfl, rfl, rfl⟩)
    · refine vx_catch (own := "HandTablesLaw") (name := ex_IS) hown [⟨0, 8, 11, 36⟩] ⟨0, 8, 14, 52⟩ [] (by rw [htab]; rfl) (fun z9 hz9 => by
        simp only [List.mem_cons, List.not_mem_nil, or_false] at hz9
        subst hz9
        exact Or.inr ⟨by decide, ex_IO, hts _ (List.mem_cons_of_mem _ (gw_mem 272 rfl rfl)), hNc.2.1⟩) (by decide) (by decide) (hts _ (List.mem_cons_of_mem _ (gw_mem 332 rfl rfl))) (va_Nw.use rfl (hEx.1 _ (by decide))) hce hcv hcl ?_
      refine lv_astore_n (lv' := [(3, .ref q), (0, .ref (xo_a g)), (1, .int k1), (2, .ref o)]) hx hb dL_outs_14 rfl hl (by decide) rfl (fun ls hl => ?_)
      refine lv_iconst (v := 2) hx hb dL_outs_15 (by decide) ?_
      exact wr_iret hx hb hr hlk dL_outs_16 hP hSS (Or.inr <| Or.inl ⟨hres, rfl, rfl, rfl, rfl⟩)
set_option maxHeartbeats 4000000 in
set_option maxRecDepth 100000 in
theorem cL_share (l : Launch) (g : xo_E) (o : Nat) (T : Nat → Int64) (dk : Nat → Int32) (dn : Int32) (f : Nat → Int64) (k1 : Int32) (k2 : Int32) (hap : xo_ap g) (ho : ¬ mu_fr g o) (res : mu_R) (dd : Nat) (hdd : dd ≤ 9) (hM : mu_M l yA_share bA_share 6 (some .int) dd (.ref (xo_a g) :: [.int k1, .int k2]) g (xo_F g T dk dn) res) (hE : ∀ E, res = .inl E → E = ex_IO ∨ E = ex_IA ∨ E = ex_IS) (hV : ∀ v T1 k1 n1, res = .inr (v, T1, k1, n1) → ∃ z : Int32, v = some (.int z)) : wr_M l yL_share bL_share 5 [(0, 10, 13, 36), (0, 10, 17, 13), (0, 10, 21, 52)] 11 [.ref (xo_a g), .int k1, .int k2, .ref o] g o T dk dn f (fun k z T1 dk1 dn1 => (res = .inl ex_IO ∧ k = 1 ∧ T1 = T ∧ dk1 = dk ∧ dn1 = dn) ∨ (res = .inl ex_IA ∧ k = 2 ∧ T1 = T ∧ dk1 = dk ∧ dn1 = dn) ∨ (res = .inl ex_IS ∧ k = 3 ∧ T1 = T ∧ dk1 = dk ∧ dn1 = dn) ∨ (∃ v : Int32, res = .inr (some (.int v), T1, dk1, dn1) ∧ k = 0 ∧ z = v.toInt64)) := by
  refine va_MetW (cc := bL_share) (maxL := 5) (ret := some .int) (hh := [(0, 10, 13, 36), (0, 10, 17, 13), (0, 10, 21, 52)]) (by decide) rfl ?_
  intro p e s m args below meth c s₁ BB hml hv
  obtain ⟨rfl, hB⟩ := hv
  have hx := BB.exec
  have hb := BB.bytes
  have hr := BB.returns
  have hlk := BB.notSynchronized
  have hts := atoms_spec (ws := wdW yL_share bL_share 5 (some .int) [(0, 10, 13, 36), (0, 10, 17, 13), (0, 10, 21, 52)]) BB.pre
  have hown : s.vm.findClass "HandTablesLaw" = some m.cls := findClass_of_methodNamed BB.named
  have hS : CallFix p m c bL_share 5 s _ (wdW yL_share bL_share 5 (some .int) [(0, 10, 13, 36), (0, 10, 17, 13), (0, 10, 21, 52)]) "HandTablesLaw" := ⟨hx, hb, hml, hown, hts⟩
  have htab := vx_table (x := yL_share) BB (hts _ List.mem_cons_self)
  obtain ⟨hX, hNc, hO⟩ := id hB
  obtain ⟨hTa, hEx, hP, hK⟩ := id hX
  have hl := lv_entry ([.ref (xo_a g), .int k1, .int k2, .ref o]) (n := 5) (Nat.le_of_ble_eq_true rfl)
  rw [lg_entry_eq]
  generalize (lg_sl ([.ref (xo_a g), .int k1, .int k2, .ref o]) ++ List.replicate (5 - (lg_sl ([.ref (xo_a g), .int k1, .int k2, .ref o])).length) Slot.unset).toArray = ls at hl ⊢
  have hl : lv_has ls 5 [(0, .ref (xo_a g)), (1, .int k1), (2, .int k2), (3, .ref o)] := hl
  refine lv_aload_n hx hb dL_share_0 rfl (lv_at hl 3 rfl) ?_
  refine lv_iconst (v := 0) hx hb dL_share_1 (by decide) ?_
  refine lv_aload_n hx hb dL_share_2 rfl (lv_at hl 0 rfl) ?_
  refine lv_iload_n hx hb dL_share_3 rfl (lv_at hl 1 rfl) ?_
  refine lv_iload_n hx hb dL_share_4 rfl (lv_at hl 2 rfl) ?_
  refine wr_V (rest := [.int 0, .ref o]) hM rfl (fun w hw => List.mem_cons_of_mem _ hw) kL_A_share hS (fun U hU hW => bl_xo s U hW hU hX) (xo_rc hX) ⟨by show dd + 1 ≤ 11; omega, by show 8 + (6 + 11) + 70 * dd ≤ 70 * 11; omega⟩ hl.1 rfl (Nat.le_of_ble_eq_true rfl) ⟨Nat.le_of_ble_eq_true rfl, Nat.le_of_ble_eq_true rfl⟩ dL_share_5 (fun v T1 dk1 dn1 H L hres hP hz hk hL => ?_) (fun E q ce H L hres hce hcv hcl hz hk hL => ?_)
  · obtain ⟨z, rfl⟩ := hV v T1 dk1 dn1 hres
    obtain ⟨hP, hSS⟩ := wr_back hO ho hP hz hk hL
    refine jv_i2l hx hb dL_share_8 ?_
    refine va_last (x := z.toInt64) hx hb hK hP (xq_D T1 dk1 dn1 f hap ho) hSS 3 0 rfl rfl (by unfold vp_in; decide) dL_share_9 (fun H locs hP _ hSS => ?_)
    have hP : va_P g.1 cl_X (xq_W g o T1 dk1 dn1 (vp_updL f (0 : Int32).toNatClampNeg (z.toInt64))) H := hP
    refine lv_goto (tgt := 25) hx hb dL_share_10 (by decide) ?_
    refine lv_iconst (v := 0) hx hb dL_share_25 (by decide) ?_
    exact wr_iret hx hb hr hlk dL_share_26 hP hSS (Or.inr <| Or.inr <| Or.inr <| ⟨z, hres, rfl, rfl⟩)
  · obtain ⟨hP, hSS⟩ := wr_back hO ho (hP.kept (fun j x hj => hk _ (hP j x hj).lt)) hz (fun q h1 _ => hk q h1) hL
    rcases hE E hres with rfl | rfl | rfl
    · refine vx_catch (own := "HandTablesLaw") (name := ex_IO) hown [] ⟨0, 10, 13, 36⟩ [⟨0, 10, 17, 13⟩, ⟨0, 10, 21, 52⟩] (by rw [htab]; rfl) (fun z9 hz9 => nomatch hz9) (by decide) (by decide) (hts _ (List.mem_cons_of_mem _ (gw_mem 272 rfl rfl))) (va_Nw.use rfl (hEx.1 _ (by decide))) hce hcv hcl ?_
      refine lv_astore (lv' := [(4, .ref q), (0, .ref (xo_a g)), (1, .int k1), (2, .int k2), (3, .ref o)]) hx hb dL_share_13 hl (by decide) rfl (fun ls hl => ?_)
      refine lv_iconst (v := 1) hx hb dL_share_15 (by decide) ?_
      exact wr_iret hx hb hr hlk dL_share_16 hP hSS (Or.inl ⟨hres, rfl, rfl, rfl, rfl⟩)
    · refine vx_catch (own := "HandTablesLaw") (name := ex_IA) hown [⟨0, 10, 13, 36⟩] ⟨0, 10, 17, 13⟩ [⟨0, 10, 21, 52⟩] (by rw [htab]; rfl) (fun z9 hz9 => by
        simp only [List.mem_cons, List.not_mem_nil, or_false] at hz9
        subst hz9
        exact Or.inr ⟨by decide, ex_IO, hts _ (List.mem_cons_of_mem _ (gw_mem 272 rfl rfl)), hNc.1⟩) (by decide) (by decide) (hts _ (List.mem_cons_of_mem _ (gw_mem 88 rfl rfl))) (va_Nw.use rfl (hEx.1 _ (by decide))) hce hcv hcl ?_
      refine lv_astore (lv' := [(4, .ref q), (0, .ref (xo_a g)), (1, .int k1), (2, .int k2), (3, .ref o)]) hx hb dL_share_17 hl (by decide) rfl (fun ls hl => ?_)
      refine lv_iconst (v := 2) hx hb dL_share_19 (by decide) ?_
      exact wr_iret hx hb hr hlk dL_share_20 hP hSS (Or.inr <| Or.inl ⟨hres, rfl, rfl, rfl, rfl⟩)
    · refine vx_catch (own := "HandTablesLaw") (name := ex_IS) hown [⟨0, 10, 13, 36⟩, ⟨0, 10, 17, 13⟩] ⟨0, 10, 21, 52⟩ [] (by rw [htab]; rfl) (fun z9 hz9 => by
        simp only [List.mem_cons, List.not_mem_nil, or_false] at hz9
        rcases hz9 with rfl | rfl
        · exact Or.inr ⟨by decide, ex_IO, hts _ (List.mem_cons_of_mem _ (gw_mem 272 rfl rfl)), hNc.2.1⟩
        · exact Or.inr ⟨by decide, ex_IA, hts _ (List.mem_cons_of_mem _ (gw_mem 88 rfl rfl)), hNc.2.2⟩) (by decide) (by decide) (hts _ (List.mem_cons_of_mem _ (gw_mem 332 rfl rfl))) (va_Nw.use rfl (hEx.1 _ (by decide))) hce hcv hcl ?_
      refine lv_astore (lv' := [(4, .ref q), (0, .ref (xo_a g)), (1, .int k1), (2, .int k2), (3, .ref o)]) hx hb dL_share_21 hl (by decide) rfl (fun ls hl => ?_)
      refine lv_iconst (v := 3) hx hb dL_share_23 (by decide) ?_
      exact wr_iret hx hb hr hlk dL_share_24 hP hSS (Or.inr <| Or.inr <| Or.inl ⟨hres, rfl, rfl, rfl, rfl⟩)
