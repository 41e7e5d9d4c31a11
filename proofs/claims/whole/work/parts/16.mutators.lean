/-! seats, the board, a card drawn -/
def tf_A : Nat → FieldType := fun k => match k with
  | 0 => .array .long
  | 1 => .array .int
  | _ => .int
theorem tf_A_ok : ∀ k, k < 3 → parseFieldDescriptor (T_A k).2.2.1 = some (tf_A k) := by decide +kernel
theorem n_A : ∀ a, a < 3 → ∀ b, b < 3 → a ≠ b → (T_A a).2.1 ≠ (T_A b).2.1 := by decide +kernel
theorem dr_in {k : Int32} (h1 : ¬ k < 0) (h2 : k < 52) : vp_in k 52 := by
  rw [vp_in_iff]
  have a1 := Int32.lt_iff_toInt_lt.mp h2
  have a2 : 0 ≤ k.toInt := Int.not_lt.mp fun z => h1 (Int32.lt_iff_toInt_lt.mpr z)
  exact ⟨a2, a1⟩
set_option maxHeartbeats 4000000 in
set_option maxRecDepth 100000 in
theorem cA_leave (l : Launch) (g : xo_E) (T : Nat → Int64) (dk : Nat → Int32) (dn : Int32) (k : Int32) (hst : l.stackTraces = false) (hap : xo_ap g)  : mu_M l yA_leave bA_leave 3 (some .boolean) 7 [.ref (xo_a g), .int k] g (xo_F g T dk dn) (if q_seat k then .inl ex_IO else if T k.toNatClampNeg = 0 then .inr (some (.int 0), vp_updL T k.toNatClampNeg 0, dk, dn) else .inr (some (.int 1), vp_updL T k.toNatClampNeg 0, dk, dn)) := by
  refine vx_ofW (cc := bA_leave) (maxL := 3) (ret := (some .boolean)) (by decide) rfl ?_
  intro p e s m args below meth c s₁ BB hml hout hv
  obtain ⟨rfl, hB⟩ := hv
  have hx := BB.exec
  have hb := BB.bytes
  have hr := BB.returns
  have hlk := BB.notSynchronized
  have hts := atoms_spec (ws := wd yA_leave bA_leave 3 (some .boolean)) BB.pre
  have hown : s.vm.findClass "HandTables" = some m.cls := findClass_of_methodNamed BB.named
  have hS : CallFix p m c bA_leave 3 s _ (wd yA_leave bA_leave 3 (some .boolean)) "HandTables" := ⟨hx, hb, hml, hown, hts⟩
  obtain ⟨hTa, hEx, hP, hK⟩ := id hB
  have hD := xo_D T dk dn hap
  have hSS : va_S (mu_fr g) s.heap s.heap [] := va_S.rf
  obtain ⟨⟨t1, hT1⟩, ⟨t2, hT2⟩, ⟨t3, hT3⟩, ⟨t4, hT4⟩⟩ := id hTa
  have hl := lv_entry ([.ref (xo_a g), .int k]) (n := 3) (Nat.le_of_ble_eq_true rfl)
  rw [lg_entry_eq]
  generalize (lg_sl ([.ref (xo_a g), .int k]) ++ List.replicate (3 - (lg_sl ([.ref (xo_a g), .int k])).length) Slot.unset).toArray = ls at hl ⊢
  have hl : lv_has ls 3 [(0, .ref (xo_a g)), (1, .int k)] := hl
  refine lv_iload_n hx hb dA_leave_0 rfl (lv_at hl 1 rfl) ?_
  refine mu_S (cA_requireSeat l _ hst) rfl kA_A_requireSeat hS bl_ex hEx ⟨Nat.le_of_ble_eq_true rfl, Nat.le_of_ble_eq_true rfl⟩ hl.1 rfl (Nat.le_of_ble_eq_true rfl) ⟨Nat.le_of_ble_eq_true rfl, Nat.le_of_ble_eq_true rfl⟩ dA_leave_1 hout hlk (fun E h9 => ?_) (fun v hv => ?_)
  · obtain ⟨hc1, rfl⟩ := ri_then h9
    (try simp only [if_pos hc1]) <;> rfl
  obtain ⟨hc1, rfl⟩ := ri_else hv
  refine lv_aload_n hx hb dA_leave_4 rfl (lv_at hl 0 rfl) ?_
  refine va_get (D := g.1) (ci := 0) (v := .ref (xo_t g)) (C := "HandTables") (T := T_A) (N := 3) hx hb hts (fun w hw => wd_in (u_inA w hw)) hown hK hP 0 rfl rfl 0 (by decide) (hts _ (wd_in (gw_mem 49 rfl rfl))) (fun _ h => h) rfl dA_leave_5 ?_
  refine lv_iload_n hx hb dA_leave_8 rfl (lv_at hl 1 rfl) ?_
  refine va_lald hx hb hK hP 1 0 rfl rfl (se_in hc1) dA_leave_9 ?_
  refine lv_lconst (v := 0) hx hb dA_leave_10 (by decide) ?_
  refine jv_lceq (tgt := 19) hx hb dA_leave_11 dA_leave_12 (by decide) (fun hc2 => ?_) (fun hc2 => ?_)
  · refine lv_iconst (v := 0) hx hb dA_leave_19 (by decide) ?_
    refine jt_topi (fun x3 ex3 => ?_)
    refine lv_istore_n (lv' := [(2, .int x3), (0, .ref (xo_a g)), (1, .int k)]) hx hb dA_leave_20 rfl hl (by decide) rfl (fun ls hl => ?_)
    refine lv_aload_n hx hb dA_leave_21 rfl (lv_at hl 1 rfl) ?_
    refine va_get (D := g.1) (ci := 0) (v := .ref (xo_t g)) (C := "HandTables") (T := T_A) (N := 3) hx hb hts (fun w hw => wd_in (u_inA w hw)) hown hK hP 0 rfl rfl 0 (by decide) (hts _ (wd_in (gw_mem 49 rfl rfl))) (fun _ h => h) rfl dA_leave_22 ?_
    refine lv_iload_n hx hb dA_leave_25 rfl (lv_at hl 2 rfl) ?_
    refine lv_lconst (v := 0) hx hb dA_leave_26 (by decide) ?_
    refine va_last (x := 0) hx hb hK hP hD hSS 1 0 rfl rfl (se_in hc1) dA_leave_27 (fun H locs hP hD hSS => ?_)
    have hP : va_P g.1 cl_X (xo_W g (vp_updL T (k : Int32).toNatClampNeg 0) dk dn) H := hP
    have hD : va_D (mu_fr g) (xo_W g (vp_updL T (k : Int32).toNatClampNeg 0) dk dn) := hD
    refine lv_iload_n hx hb dA_leave_28 rfl (lv_at hl 0 rfl) ?_
    exact mu_zret hx hb hr hlk dA_leave_29 (by subst_vars; decide) hP hSS (by subst ex3; (try simp only [if_neg hc1, if_pos hc2]) <;> rfl)
  · refine lv_iconst (v := 1) hx hb dA_leave_15 (by decide) ?_
    refine lv_goto (tgt := 20) hx hb dA_leave_16 (by decide) ?_
    refine jt_topi (fun x4 ex4 => ?_)
    refine lv_istore_n (lv' := [(2, .int x4), (0, .ref (xo_a g)), (1, .int k)]) hx hb dA_leave_20 rfl hl (by decide) rfl (fun ls hl => ?_)
    refine lv_aload_n hx hb dA_leave_21 rfl (lv_at hl 1 rfl) ?_
    refine va_get (D := g.1) (ci := 0) (v := .ref (xo_t g)) (C := "HandTables") (T := T_A) (N := 3) hx hb hts (fun w hw => wd_in (u_inA w hw)) hown hK hP 0 rfl rfl 0 (by decide) (hts _ (wd_in (gw_mem 49 rfl rfl))) (fun _ h => h) rfl dA_leave_22 ?_
    refine lv_iload_n hx hb dA_leave_25 rfl (lv_at hl 2 rfl) ?_
    refine lv_lconst (v := 0) hx hb dA_leave_26 (by decide) ?_
    refine va_last (x := 0) hx hb hK hP hD hSS 1 0 rfl rfl (se_in hc1) dA_leave_27 (fun H locs hP hD hSS => ?_)
    have hP : va_P g.1 cl_X (xo_W g (vp_updL T (k : Int32).toNatClampNeg 0) dk dn) H := hP
    have hD : va_D (mu_fr g) (xo_W g (vp_updL T (k : Int32).toNatClampNeg 0) dk dn) := hD
    refine lv_iload_n hx hb dA_leave_28 rfl (lv_at hl 0 rfl) ?_
    exact mu_zret hx hb hr hlk dA_leave_29 (by subst_vars; decide) hP hSS (by subst ex4; (try simp only [if_neg hc1, if_neg hc2]) <;> rfl)
set_option maxHeartbeats 4000000 in
set_option maxRecDepth 100000 in
theorem cA_clear (l : Launch) (g : xo_E) (T : Nat → Int64) (dk : Nat → Int32) (dn : Int32)  (hst : l.stackTraces = false) (hap : xo_ap g)  : mu_M l yA_clear bA_clear 2 (some .int) 7 [.ref (xo_a g)] g (xo_F g T dk dn) (.inr (some (.int (g_bs T)), vp_updL T (6 : Int32).toNatClampNeg 0, dk, dn)) := by
  refine vx_ofW (cc := bA_clear) (maxL := 2) (ret := (some .int)) (by decide) rfl ?_
  intro p e s m args below meth c s₁ BB hml hout hv
  obtain ⟨rfl, hB⟩ := hv
  have hx := BB.exec
  have hb := BB.bytes
  have hr := BB.returns
  have hlk := BB.notSynchronized
  have hts := atoms_spec (ws := wd yA_clear bA_clear 2 (some .int)) BB.pre
  have hown : s.vm.findClass "HandTables" = some m.cls := findClass_of_methodNamed BB.named
  have hS : CallFix p m c bA_clear 2 s _ (wd yA_clear bA_clear 2 (some .int)) "HandTables" := ⟨hx, hb, hml, hown, hts⟩
  obtain ⟨hTa, hEx, hP, hK⟩ := id hB
  have hD := xo_D T dk dn hap
  have hSS : va_S (mu_fr g) s.heap s.heap [] := va_S.rf
  obtain ⟨⟨t1, hT1⟩, ⟨t2, hT2⟩, ⟨t3, hT3⟩, ⟨t4, hT4⟩⟩ := id hTa
  have hl := lv_entry ([.ref (xo_a g)]) (n := 2) (Nat.le_of_ble_eq_true rfl)
  rw [lg_entry_eq]
  generalize (lg_sl ([.ref (xo_a g)]) ++ List.replicate (2 - (lg_sl ([.ref (xo_a g)])).length) Slot.unset).toArray = ls at hl ⊢
  have hl : lv_has ls 2 [(0, .ref (xo_a g))] := hl
  refine lv_aload_n hx hb dA_clear_0 rfl (lv_at hl 0 rfl) ?_
  refine pu_V (cA_boardSize l g T dk dn ) rfl kA_A_boardSize hS bl_xo hB rfl (xo_rc hB) ⟨Nat.le_of_ble_eq_true rfl, Nat.le_of_ble_eq_true rfl⟩ hl.1 rfl (Nat.le_of_ble_eq_true rfl) ⟨Nat.zero_le _, Nat.zero_le _⟩ dA_clear_1 ?_
  refine jt_topi (fun x1 ex1 => ?_)
  refine lv_istore_n (lv' := [(1, .int x1), (0, .ref (xo_a g))]) hx hb dA_clear_4 rfl hl (by decide) rfl (fun ls hl => ?_)
  refine lv_aload_n hx hb dA_clear_5 rfl (lv_at hl 1 rfl) ?_
  refine va_get (D := g.1) (ci := 0) (v := .ref (xo_t g)) (C := "HandTables") (T := T_A) (N := 3) hx hb hts (fun w hw => wd_in (u_inA w hw)) hown hK hP 0 rfl rfl 0 (by decide) (hts _ (wd_in (gw_mem 49 rfl rfl))) (fun _ h => h) rfl dA_clear_6 ?_
  refine lv_bipush (v := 6) hx hb dA_clear_9 (by decide) ?_
  refine lv_lconst (v := 0) hx hb dA_clear_11 (by decide) ?_
  refine va_last (x := 0) hx hb hK hP hD hSS 1 0 rfl rfl (by unfold vp_in; decide) dA_clear_12 (fun H locs hP hD hSS => ?_)
  have hP : va_P g.1 cl_X (xo_W g (vp_updL T (6 : Int32).toNatClampNeg 0) dk dn) H := hP
  have hD : va_D (mu_fr g) (xo_W g (vp_updL T (6 : Int32).toNatClampNeg 0) dk dn) := hD
  refine lv_iload_n hx hb dA_clear_13 rfl (lv_at hl 0 rfl) ?_
  exact mu_iret hx hb hr hlk dA_clear_14 hP hSS (by subst ex1; (try simp only []) <;> rfl)
set_option maxHeartbeats 4000000 in
set_option maxRecDepth 100000 in
theorem cA_seat (l : Launch) (g : xo_E) (T : Nat → Int64) (dk : Nat → Int32) (dn : Int32) (k : Int32) (a : Int32) (b : Int32) (hst : l.stackTraces = false) (hap : xo_ap g)  : mu_M l yA_seat bA_seat 8 (some .boolean) 7 [.ref (xo_a g), .int k, .int a, .int b] g (xo_F g T dk dn) (if q_seat k then .inl ex_IO else if q_card a then .inl ex_IA else if q_card b then .inl ex_IA else if a = b then .inr (some (.int 0), T, dk, dn) else if (jl 1 a ||| jl 1 b) &&& (g_stand T &&& (T k.toNatClampNeg ^^^ -1)) = 0 then .inr (some (.int 1), vp_updL T k.toNatClampNeg (jl 1 a ||| jl 1 b), dk, dn) else .inr (some (.int 0), T, dk, dn)) := by
  refine vx_ofW (cc := bA_seat) (maxL := 8) (ret := (some .boolean)) (by decide) rfl ?_
  intro p e s m args below meth c s₁ BB hml hout hv
  obtain ⟨rfl, hB⟩ := hv
  have hx := BB.exec
  have hb := BB.bytes
  have hr := BB.returns
  have hlk := BB.notSynchronized
  have hts := atoms_spec (ws := wd yA_seat bA_seat 8 (some .boolean)) BB.pre
  have hown : s.vm.findClass "HandTables" = some m.cls := findClass_of_methodNamed BB.named
  have hS : CallFix p m c bA_seat 8 s _ (wd yA_seat bA_seat 8 (some .boolean)) "HandTables" := ⟨hx, hb, hml, hown, hts⟩
  obtain ⟨hTa, hEx, hP, hK⟩ := id hB
  have hD := xo_D T dk dn hap
  have hSS : va_S (mu_fr g) s.heap s.heap [] := va_S.rf
  obtain ⟨⟨t1, hT1⟩, ⟨t2, hT2⟩, ⟨t3, hT3⟩, ⟨t4, hT4⟩⟩ := id hTa
  have hl := lv_entry ([.ref (xo_a g), .int k, .int a, .int b]) (n := 8) (Nat.le_of_ble_eq_true rfl)
  rw [lg_entry_eq]
  generalize (lg_sl ([.ref (xo_a g), .int k, .int a, .int b]) ++ List.replicate (8 - (lg_sl ([.ref (xo_a g), .int k, .int a, .int b])).length) Slot.unset).toArray = ls at hl ⊢
  have hl : lv_has ls 8 [(0, .ref (xo_a g)), (1, .int k), (2, .int a), (3, .int b)] := hl
  refine lv_iload_n hx hb dA_seat_0 rfl (lv_at hl 1 rfl) ?_
  refine mu_S (cA_requireSeat l _ hst) rfl kA_A_requireSeat hS bl_ex hEx ⟨Nat.le_of_ble_eq_true rfl, Nat.le_of_ble_eq_true rfl⟩ hl.1 rfl (Nat.le_of_ble_eq_true rfl) ⟨Nat.le_of_ble_eq_true rfl, Nat.le_of_ble_eq_true rfl⟩ dA_seat_1 hout hlk (fun E h9 => ?_) (fun v hv => ?_)
  · obtain ⟨hc1, rfl⟩ := ri_then h9
    (try simp only [if_pos hc1]) <;> rfl
  obtain ⟨hc1, rfl⟩ := ri_else hv
  refine lv_iload_n hx hb dA_seat_4 rfl (lv_at hl 2 rfl) ?_
  refine mu_S (cA_requireCard l _ hst) rfl kA_A_requireCard hS bl_ex hEx ⟨Nat.le_of_ble_eq_true rfl, Nat.le_of_ble_eq_true rfl⟩ hl.1 rfl (Nat.le_of_ble_eq_true rfl) ⟨Nat.le_of_ble_eq_true rfl, Nat.le_of_ble_eq_true rfl⟩ dA_seat_5 hout hlk (fun E h9 => ?_) (fun v hv => ?_)
  · obtain ⟨hc2, rfl⟩ := ri_then h9
    (try simp only [if_neg hc1, if_pos hc2]) <;> rfl
  obtain ⟨hc2, rfl⟩ := ri_else hv
  refine lv_iload_n hx hb dA_seat_8 rfl (lv_at hl 3 rfl) ?_
  refine mu_S (cA_requireCard l _ hst) rfl kA_A_requireCard hS bl_ex hEx ⟨Nat.le_of_ble_eq_true rfl, Nat.le_of_ble_eq_true rfl⟩ hl.1 rfl (Nat.le_of_ble_eq_true rfl) ⟨Nat.le_of_ble_eq_true rfl, Nat.le_of_ble_eq_true rfl⟩ dA_seat_9 hout hlk (fun E h9 => ?_) (fun v hv => ?_)
  · obtain ⟨hc3, rfl⟩ := ri_then h9
    (try simp only [if_neg hc1, if_neg hc2, if_pos hc3]) <;> rfl
  obtain ⟨hc3, rfl⟩ := ri_else hv
  refine lv_lconst (v := 1) hx hb dA_seat_12 (by decide) ?_
  refine lv_iload_n hx hb dA_seat_13 rfl (lv_at hl 2 rfl) ?_
  refine jv_lshl hx hb dA_seat_14 ?_
  refine lv_lconst (v := 1) hx hb dA_seat_15 (by decide) ?_
  refine lv_iload_n hx hb dA_seat_16 rfl (lv_at hl 3 rfl) ?_
  refine jv_lshl hx hb dA_seat_17 ?_
  refine lv_lor hx hb dA_seat_18 ?_
  refine jt_topl (fun x4 ex4 => ?_)
  refine lv_lstore (lv' := [(4, .long x4), (0, .ref (xo_a g)), (1, .int k), (2, .int a), (3, .int b)]) hx hb dA_seat_19 hl (by decide) rfl (fun ls hl => ?_)
  refine lv_aload_n hx hb dA_seat_21 rfl (lv_at hl 1 rfl) ?_
  refine pu_V (cA_standing l g T dk dn ) rfl kA_A_standing hS bl_xo hB rfl (xo_rc hB) ⟨Nat.le_of_ble_eq_true rfl, Nat.le_of_ble_eq_true rfl⟩ hl.1 rfl (Nat.le_of_ble_eq_true rfl) ⟨Nat.zero_le _, Nat.zero_le _⟩ dA_seat_22 ?_
  refine lv_aload_n hx hb dA_seat_25 rfl (lv_at hl 1 rfl) ?_
  refine va_get (D := g.1) (ci := 0) (v := .ref (xo_t g)) (C := "HandTables") (T := T_A) (N := 3) hx hb hts (fun w hw => wd_in (u_inA w hw)) hown hK hP 0 rfl rfl 0 (by decide) (hts _ (wd_in (gw_mem 49 rfl rfl))) (fun _ h => h) rfl dA_seat_26 ?_
  refine lv_iload_n hx hb dA_seat_29 rfl (lv_at hl 2 rfl) ?_
  refine va_lald hx hb hK hP 1 0 rfl rfl (se_in hc1) dA_seat_30 ?_
  refine lv_ldc2 (v := (-1)) hx hb hown (hts _ (wd_in (gw_mem 183 rfl rfl))) dA_seat_31 ?_
  refine lv_lxor hx hb dA_seat_34 ?_
  refine lv_land hx hb dA_seat_35 ?_
  refine jt_topl (fun x5 ex5 => ?_)
  refine lv_lstore (lv' := [(6, .long x5), (4, .long x4), (0, .ref (xo_a g)), (1, .int k), (2, .int a), (3, .int b)]) hx hb dA_seat_36 hl (by decide) rfl (fun ls hl => ?_)
  refine lv_iload_n hx hb dA_seat_38 rfl (lv_at hl 4 rfl) ?_
  refine lv_iload_n hx hb dA_seat_39 rfl (lv_at hl 5 rfl) ?_
  refine lv_icmp_eq (tgt := 53) hx hb dA_seat_40 (by decide) (fun hc6 => ?_) (fun hc6 => ?_)
  · refine lv_iconst (v := 0) hx hb dA_seat_53 (by decide) ?_
    exact mu_zret hx hb hr hlk dA_seat_54 (by subst_vars; decide) hP hSS (by subst ex5 ex4; (try simp only [if_neg hc1, if_neg hc2, if_neg hc3, if_pos hc6]) <;> rfl)
  · refine lv_lload hx hb dA_seat_43 (lv_at hl 1 rfl) ?_
    refine lv_lload hx hb dA_seat_45 (lv_at hl 0 rfl) ?_
    refine lv_land hx hb dA_seat_47 ?_
    refine lv_lconst (v := 0) hx hb dA_seat_48 (by decide) ?_
    refine jv_lceq (tgt := 55) hx hb dA_seat_49 dA_seat_50 (by decide) (fun hc7 => ?_) (fun hc7 => ?_)
    · refine lv_aload_n hx hb dA_seat_55 rfl (lv_at hl 2 rfl) ?_
      refine va_get (D := g.1) (ci := 0) (v := .ref (xo_t g)) (C := "HandTables") (T := T_A) (N := 3) hx hb hts (fun w hw => wd_in (u_inA w hw)) hown hK hP 0 rfl rfl 0 (by decide) (hts _ (wd_in (gw_mem 49 rfl rfl))) (fun _ h => h) rfl dA_seat_56 ?_
      refine lv_iload_n hx hb dA_seat_59 rfl (lv_at hl 3 rfl) ?_
      refine lv_lload hx hb dA_seat_60 (lv_at hl 1 rfl) ?_
      refine va_last (x := x4) hx hb hK hP hD hSS 1 0 rfl rfl (se_in hc1) dA_seat_62 (fun H locs hP hD hSS => ?_)
      have hP : va_P g.1 cl_X (xo_W g (vp_updL T (k : Int32).toNatClampNeg x4) dk dn) H := hP
      have hD : va_D (mu_fr g) (xo_W g (vp_updL T (k : Int32).toNatClampNeg x4) dk dn) := hD
      refine lv_iconst (v := 1) hx hb dA_seat_63 (by decide) ?_
      exact mu_zret hx hb hr hlk dA_seat_64 (by subst_vars; decide) hP hSS (by subst ex5 ex4; (try simp only [if_neg hc1, if_neg hc2, if_neg hc3, if_neg hc6, if_pos hc7]) <;> rfl)
    · refine lv_iconst (v := 0) hx hb dA_seat_53 (by decide) ?_
      exact mu_zret hx hb hr hlk dA_seat_54 (by subst_vars; decide) hP hSS (by subst ex5 ex4; (try simp only [if_neg hc1, if_neg hc2, if_neg hc3, if_neg hc6, if_neg hc7]) <;> rfl)
set_option maxHeartbeats 4000000 in
set_option maxRecDepth 100000 in
theorem cA_draw (l : Launch) (g : xo_E) (T : Nat → Int64) (dk : Nat → Int32) (dn : Int32)  (hst : l.stackTraces = false) (hap : xo_ap g) (hd0 : ¬ dn < 0) : mu_M l yA_draw bA_draw 2 (some .int) 7 [.ref (xo_a g)] g (xo_F g T dk dn) (if dn < 52 then .inr (some (.int (dk dn.toNatClampNeg)), T, dk, dn + 1) else .inr (some (.int (-1)), T, dk, dn)) := by
  refine vx_ofW (cc := bA_draw) (maxL := 2) (ret := (some .int)) (by decide) rfl ?_
  intro p e s m args below meth c s₁ BB hml hout hv
  obtain ⟨rfl, hB⟩ := hv
  have hx := BB.exec
  have hb := BB.bytes
  have hr := BB.returns
  have hlk := BB.notSynchronized
  have hts := atoms_spec (ws := wd yA_draw bA_draw 2 (some .int)) BB.pre
  have hown : s.vm.findClass "HandTables" = some m.cls := findClass_of_methodNamed BB.named
  have hS : CallFix p m c bA_draw 2 s _ (wd yA_draw bA_draw 2 (some .int)) "HandTables" := ⟨hx, hb, hml, hown, hts⟩
  obtain ⟨hTa, hEx, hP, hK⟩ := id hB
  have hD := xo_D T dk dn hap
  have hSS : va_S (mu_fr g) s.heap s.heap [] := va_S.rf
  obtain ⟨⟨t1, hT1⟩, ⟨t2, hT2⟩, ⟨t3, hT3⟩, ⟨t4, hT4⟩⟩ := id hTa
  have hl := lv_entry ([.ref (xo_a g)]) (n := 2) (Nat.le_of_ble_eq_true rfl)
  rw [lg_entry_eq]
  generalize (lg_sl ([.ref (xo_a g)]) ++ List.replicate (2 - (lg_sl ([.ref (xo_a g)])).length) Slot.unset).toArray = ls at hl ⊢
  have hl : lv_has ls 2 [(0, .ref (xo_a g))] := hl
  refine lv_aload_n hx hb dA_draw_0 rfl (lv_at hl 0 rfl) ?_
  refine va_get (D := g.1) (ci := 0) (v := .int dn) (C := "HandTables") (T := T_A) (N := 3) hx hb hts (fun w hw => wd_in (u_inA w hw)) hown hK hP 0 rfl rfl 2 (by decide) (hts _ (wd_in (gw_mem 51 rfl rfl))) (fun _ h => h) rfl dA_draw_1 ?_
  refine lv_bipush (v := 52) hx hb dA_draw_4 (by decide) ?_
  refine lv_icmp_lt (tgt := 11) hx hb dA_draw_6 (by decide) (fun hc1 => ?_) (fun hc1 => ?_)
  · refine lv_aload_n hx hb dA_draw_11 rfl (lv_at hl 0 rfl) ?_
    refine va_get (D := g.1) (ci := 0) (v := .ref (xo_d g)) (C := "HandTables") (T := T_A) (N := 3) hx hb hts (fun w hw => wd_in (u_inA w hw)) hown hK hP 0 rfl rfl 1 (by decide) (hts _ (wd_in (gw_mem 50 rfl rfl))) (fun _ h => h) rfl dA_draw_12 ?_
    refine lv_aload_n hx hb dA_draw_15 rfl (lv_at hl 0 rfl) ?_
    refine va_get (D := g.1) (ci := 0) (v := .int dn) (C := "HandTables") (T := T_A) (N := 3) hx hb hts (fun w hw => wd_in (u_inA w hw)) hown hK hP 0 rfl rfl 2 (by decide) (hts _ (wd_in (gw_mem 51 rfl rfl))) (fun _ h => h) rfl dA_draw_16 ?_
    refine va_iald hx hb hK hP 2 1 rfl rfl (dr_in hd0 hc1) dA_draw_19 ?_
    refine jt_topi (fun x2 ex2 => ?_)
    refine lv_istore_n (lv' := [(1, .int x2), (0, .ref (xo_a g))]) hx hb dA_draw_20 rfl hl (by decide) rfl (fun ls hl => ?_)
    refine lv_aload_n hx hb dA_draw_21 rfl (lv_at hl 1 rfl) ?_
    refine lv_dup hx hb dA_draw_22 rfl ?_
    refine va_get (D := g.1) (ci := 0) (v := .int dn) (C := "HandTables") (T := T_A) (N := 3) hx hb hts (fun w hw => wd_in (u_inA w hw)) hown hK hP 0 rfl rfl 2 (by decide) (hts _ (wd_in (gw_mem 51 rfl rfl))) (fun _ h => h) rfl dA_draw_23 ?_
    refine lv_iconst (v := 1) hx hb dA_draw_26 (by decide) ?_
    refine lv_iadd hx hb dA_draw_27 ?_
    refine jt_topi (fun x3 ex3 => ?_)
    refine va_put (D := g.1) (ci := 0) (v := .int x3) (ty := .int) (C := "HandTables") (T := T_A) (N := 3) hx hb hts (fun w hw => wd_in (u_inA w hw)) tf_A tf_A_ok n_A hown hK hP hD hSS 0 rfl rfl 2 (by decide) (hts _ (wd_in (gw_mem 51 rfl rfl))) (fun _ h => h) rfl (by decide +kernel) rfl rfl (Nat.le_of_ble_eq_true rfl) dA_draw_28 (fun H locs hP hD hSS => ?_)
    have hP : va_P g.1 cl_X (xo_W g T dk x3) H := hP
    have hD : va_D (mu_fr g) (xo_W g T dk x3) := hD
    refine lv_iload_n hx hb dA_draw_31 rfl (lv_at hl 0 rfl) ?_
    exact mu_iret hx hb hr hlk dA_draw_32 hP hSS (by subst ex3 ex2; (try simp only [if_pos hc1]) <;> rfl)
  · refine lv_iconst (v := (-1)) hx hb dA_draw_9 (by decide) ?_
    exact mu_iret hx hb hr hlk dA_draw_10 hP hSS (by (try simp only [if_neg hc1]) <;> rfl)
