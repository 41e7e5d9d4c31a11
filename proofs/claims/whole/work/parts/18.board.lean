/-! a card onto the board -/
section VH
variable {p : Program} {l : Launch} {e : Env} {R : Room} {s : State} {m : MethodId} {args : Array Value} {below : List Frame} {meth : Method} {c : Code} {H : Heap} {locs : List Loc} {cells slots : Nat} {Q : State → Prop}
variable {cc b : ByteArray} {pc nL n d index k o : Nat} {ls : Array Slot} {rest st0 : List Value} {own C : String} {y y0 : MethodName} {b0 : ByteArray} {n0 : Nat} {ret ret0 : Option FieldType} {av : List Value} {B : State → Prop} {r : Value}
/-- a pure call in a heap that has changed -/
theorem pu_VH (hM : pu_M l y b n ret d (.ref o :: av) B r) (he : st0 = av.reverse ++ .ref o :: rest) (hc : cv_W own index C y b n ret k) (S : CallFix p m c cc nL s args (wd y0 b0 n0 ret0) own) (hBl : bl_F B) (hB : ∀ U : State, U.heap = H → s.WarmedH U.vm → B U) (hrc : ∃ cell : Cell, H[o]? = some cell ∧ cell.vm.isStatics = false ∧ s.vm.findClass C = some cell.cls)
    (hR : (d + 1 ≤ R.frames ∧ 8 + (n + 11) + 70 * d ≤ R.locals)) (hl : ls.size = nL) (hk : av.length = k) (hst : (rest.map fun v => v.category).sum ≤ 8) (hf : cells ≤ R.cells ∧ slots ≤ R.slots) (hdg : decode cc pc = .ok (.invokevirtual index, 3))
    (kk : W p l e R s m args below meth c H locs cells slots Q (F0 m (pc + 3) ls (r :: rest))) : W p l e R s m args below meth c H locs cells slots Q (F0 m pc ls st0) := by
  subst he
  exact pu_call (va_runV (C := C) (b := o) (As := av) (rest := rest) S hM (cwV k S.2.2.2.2 (cv_good hc) rfl rfl rfl hc.2.2.2.2.2 hR) ⟨bl_blind hBl, hrc, fun U hU hW => ⟨rfl, hB U hU hW⟩⟩ rfl hk hl rfl (by show 2 * 0 + _ ≤ 8; omega) hdg hf) kk
end VH
def g_T1 (T : Nat → Int64) (k : Int32) : Nat → Int64 := vp_updL T (6 : Int32).toNatClampNeg (T (6 : Int32).toNatClampNeg ||| jl 1 k)
set_option maxHeartbeats 4000000 in
set_option maxRecDepth 100000 in
theorem cA_boardSize_w (l : Launch) (g : xo_E) (T : Nat → Int64) (dk : Nat → Int32) (dn : Int32)   : pu_M l yA_boardSize bA_boardSize 1 (some .int) 1 [.ref (xo_a g)] (xw_F g T dk dn) (.int (g_bs T)) := by
  refine Met.ofW (cc := bA_boardSize) (maxL := 1) (ret := (some .int)) (by decide) rfl ?_
  intro p e s m args below meth c s₁ BB hml hv
  obtain ⟨rfl, hB⟩ := hv
  have hx := BB.exec
  have hb := BB.bytes
  have hr := BB.returns
  have hlk := BB.notSynchronized
  have hts := atoms_spec (ws := wd yA_boardSize bA_boardSize 1 (some .int)) BB.pre
  have hown : s.vm.findClass "HandTables" = some m.cls := findClass_of_methodNamed BB.named
  have hS : CallFix p m c bA_boardSize 1 s _ (wd yA_boardSize bA_boardSize 1 (some .int)) "HandTables" := ⟨hx, hb, hml, hown, hts⟩
  obtain ⟨hP, hK⟩ := id hB
  have hl := lv_entry ([.ref (xo_a g)]) (n := 1) (Nat.le_of_ble_eq_true rfl)
  rw [lg_entry_eq]
  generalize (lg_sl ([.ref (xo_a g)]) ++ List.replicate (1 - (lg_sl ([.ref (xo_a g)])).length) Slot.unset).toArray = ls at hl ⊢
  have hl : lv_has ls 1 [(0, .ref (xo_a g))] := hl
  refine lv_aload_n hx hb dA_boardSize_0 rfl (lv_at hl 0 rfl) ?_
  refine va_get (D := g.1) (ci := 0) (v := .ref (xo_t g)) (C := "HandTables") (T := T_A) (N := 3) hx hb hts (fun w hw => wd_in (u_inA w hw)) hown hK hP 0 rfl rfl 0 (by decide) (hts _ (wd_in (gw_mem 49 rfl rfl))) (fun _ h => h) rfl dA_boardSize_1 ?_
  refine lv_bipush (v := 6) hx hb dA_boardSize_4 (by decide) ?_
  refine va_lald hx hb hK hP 1 0 rfl rfl (by unfold vp_in; decide) dA_boardSize_6 ?_
  refine pu_S (cJ_bitCount l _) rfl kA_J_bitCount hS bl_T trivial rfl ⟨Nat.le_of_ble_eq_true rfl, Nat.le_of_ble_eq_true rfl⟩ hl.1 rfl (Nat.le_of_ble_eq_true rfl) ⟨Nat.zero_le _, Nat.zero_le _⟩ dA_boardSize_7 ?_
  exact pu_iret hx hb hr hlk dA_boardSize_10 (by rfl)
set_option maxHeartbeats 4000000 in
set_option maxRecDepth 100000 in
theorem cA_board (l : Launch) (g : xo_E) (T : Nat → Int64) (dk : Nat → Int32) (dn : Int32) (k : Int32) (hst : l.stackTraces = false) (hap : xo_ap g)  : mu_M l yA_board bA_board 4 (some .int) 7 [.ref (xo_a g), .int k] g (xo_F g T dk dn) (if q_card k then .inl ex_IA else if 5 - g_bs T = 0 then .inr (some (.int (-1)), T, dk, dn) else if g_stand T &&& jl 1 k = 0 then .inr (some (.int (g_bs (g_T1 T k))), g_T1 T k, dk, dn) else .inr (some (.int (-1)), T, dk, dn)) := by
  refine vx_ofW (cc := bA_board) (maxL := 4) (ret := (some .int)) (by decide) rfl ?_
  intro p e s m args below meth c s₁ BB hml hout hv
  obtain ⟨rfl, hB⟩ := hv
  have hx := BB.exec
  have hb := BB.bytes
  have hr := BB.returns
  have hlk := BB.notSynchronized
  have hts := atoms_spec (ws := wd yA_board bA_board 4 (some .int)) BB.pre
  have hown : s.vm.findClass "HandTables" = some m.cls := findClass_of_methodNamed BB.named
  have hS : CallFix p m c bA_board 4 s _ (wd yA_board bA_board 4 (some .int)) "HandTables" := ⟨hx, hb, hml, hown, hts⟩
  obtain ⟨hTa, hEx, hP, hK⟩ := id hB
  have hD := xo_D T dk dn hap
  have hSS : va_S (mu_fr g) s.heap s.heap [] := va_S.rf
  obtain ⟨⟨t1, hT1⟩, ⟨t2, hT2⟩, ⟨t3, hT3⟩, ⟨t4, hT4⟩⟩ := id hTa
  have hl := lv_entry ([.ref (xo_a g), .int k]) (n := 4) (Nat.le_of_ble_eq_true rfl)
  rw [lg_entry_eq]
  generalize (lg_sl ([.ref (xo_a g), .int k]) ++ List.replicate (4 - (lg_sl ([.ref (xo_a g), .int k])).length) Slot.unset).toArray = ls at hl ⊢
  have hl : lv_has ls 4 [(0, .ref (xo_a g)), (1, .int k)] := hl
  refine lv_iload_n hx hb dA_board_0 rfl (lv_at hl 1 rfl) ?_
  refine mu_S (cA_requireCard l _ hst) rfl kA_A_requireCard hS bl_ex hEx ⟨Nat.le_of_ble_eq_true rfl, Nat.le_of_ble_eq_true rfl⟩ hl.1 rfl (Nat.le_of_ble_eq_true rfl) ⟨Nat.le_of_ble_eq_true rfl, Nat.le_of_ble_eq_true rfl⟩ dA_board_1 hout hlk (fun E h9 => ?_) (fun v hv => ?_)
  · obtain ⟨hc1, rfl⟩ := ri_then h9
    (try simp only [if_pos hc1]) <;> rfl
  obtain ⟨hc1, rfl⟩ := ri_else hv
  refine lv_lconst (v := 1) hx hb dA_board_4 (by decide) ?_
  refine lv_iload_n hx hb dA_board_5 rfl (lv_at hl 1 rfl) ?_
  refine jv_lshl hx hb dA_board_6 ?_
  refine jt_topl (fun x2 ex2 => ?_)
  refine lv_lstore_n (lv' := [(2, .long x2), (0, .ref (xo_a g)), (1, .int k)]) hx hb dA_board_7 rfl hl (by decide) rfl (fun ls hl => ?_)
  refine lv_aload_n hx hb dA_board_8 rfl (lv_at hl 1 rfl) ?_
  refine pu_V (cA_missing l g T dk dn ) rfl kA_A_missing hS bl_xo hB rfl (xo_rc hB) ⟨Nat.le_of_ble_eq_true rfl, Nat.le_of_ble_eq_true rfl⟩ hl.1 rfl (Nat.le_of_ble_eq_true rfl) ⟨Nat.zero_le _, Nat.zero_le _⟩ dA_board_9 ?_
  refine lv_if_eq (tgt := 26) hx hb dA_board_12 (by decide) (fun hc3 => ?_) (fun hc3 => ?_)
  · refine lv_iconst (v := (-1)) hx hb dA_board_26 (by decide) ?_
    exact mu_iret hx hb hr hlk dA_board_27 hP hSS (by subst ex2; (try simp only [if_neg hc1, if_pos hc3]) <;> rfl)
  · refine lv_aload_n hx hb dA_board_15 rfl (lv_at hl 1 rfl) ?_
    refine pu_V (cA_standing l g T dk dn ) rfl kA_A_standing hS bl_xo hB rfl (xo_rc hB) ⟨Nat.le_of_ble_eq_true rfl, Nat.le_of_ble_eq_true rfl⟩ hl.1 rfl (Nat.le_of_ble_eq_true rfl) ⟨Nat.zero_le _, Nat.zero_le _⟩ dA_board_16 ?_
    refine lv_lload_n hx hb dA_board_19 rfl (lv_at hl 0 rfl) ?_
    refine lv_land hx hb dA_board_20 ?_
    refine lv_lconst (v := 0) hx hb dA_board_21 (by decide) ?_
    refine jv_lceq (tgt := 28) hx hb dA_board_22 dA_board_23 (by decide) (fun hc4 => ?_) (fun hc4 => ?_)
    · refine lv_aload_n hx hb dA_board_28 rfl (lv_at hl 1 rfl) ?_
      refine va_get (D := g.1) (ci := 0) (v := .ref (xo_t g)) (C := "HandTables") (T := T_A) (N := 3) hx hb hts (fun w hw => wd_in (u_inA w hw)) hown hK hP 0 rfl rfl 0 (by decide) (hts _ (wd_in (gw_mem 49 rfl rfl))) (fun _ h => h) rfl dA_board_29 ?_
      refine lv_bipush (v := 6) hx hb dA_board_32 (by decide) ?_
      refine lv_dup2_11 hx hb dA_board_34 rfl rfl ?_
      refine va_lald hx hb hK hP 1 0 rfl rfl (by unfold vp_in; decide) dA_board_35 ?_
      refine lv_lload_n hx hb dA_board_36 rfl (lv_at hl 0 rfl) ?_
      refine lv_lor hx hb dA_board_37 ?_
      refine jt_topl (fun x5 ex5 => ?_)
      refine va_last (x := x5) hx hb hK hP hD hSS 1 0 rfl rfl (by unfold vp_in; decide) dA_board_38 (fun H locs hP hD hSS => ?_)
      have hP : va_P g.1 cl_X (xo_W g (vp_updL T (6 : Int32).toNatClampNeg x5) dk dn) H := hP
      have hD : va_D (mu_fr g) (xo_W g (vp_updL T (6 : Int32).toNatClampNeg x5) dk dn) := hD
      refine lv_aload_n hx hb dA_board_39 rfl (lv_at hl 1 rfl) ?_
      refine pu_VH (cA_boardSize_w l g (vp_updL T (6 : Int32).toNatClampNeg x5) dk dn) rfl kA_A_boardSize hS bl_xw (fun U hU hW => ⟨by rw [hU]; exact hP, va_K.moved hW.alike hK⟩) (va_recv (q0 := 0) (ci := 0) (q := ("HandTables", T_A, 3)) hK hP rfl rfl) ⟨Nat.le_of_ble_eq_true rfl, Nat.le_of_ble_eq_true rfl⟩ hl.1 rfl (Nat.le_of_ble_eq_true rfl) ⟨Nat.zero_le _, Nat.zero_le _⟩ dA_board_40 ?_
      exact mu_iret hx hb hr hlk dA_board_43 hP hSS (by subst ex5 ex2; (try simp only [if_neg hc1, if_neg hc3, if_pos hc4]) <;> rfl)
    · refine lv_iconst (v := (-1)) hx hb dA_board_26 (by decide) ?_
      exact mu_iret hx hb hr hlk dA_board_27 hP hSS (by subst ex2; (try simp only [if_neg hc1, if_neg hc3, if_neg hc4]) <;> rfl)
