/-! the class as an object: its cells; what its small methods answer -/
def T_A : u_T := fun k => match k with
  | 0 => ("HandTables", "table", "[J", true)
  | 1 => ("HandTables", "deck", "[I", true)
  | _ => ("HandTables", "drawn", "I", false)
def T_M : u_T := fun k => match k with
  | 0 => ("HandTablesModel", "thrown", "I", false)
  | 1 => ("HandTablesModel", "keys", "[I", true)
  | 2 => ("HandTablesModel", "keyCount", "I", false)
  | 3 => ("HandTablesModel", "ranks", "[I", true)
  | 4 => ("HandTablesModel", "often", "[I", true)
  | 5 => ("HandTablesModel", "hand", "[I", true)
  | 6 => ("HandTablesModel", "handSize", "I", false)
  | 7 => ("HandTablesModel", "seats", "[I", true)
  | 8 => ("HandTablesModel", "board", "[I", true)
  | 9 => ("HandTablesModel", "boardSize", "I", false)
  | 10 => ("HandTablesModel", "deck", "[I", true)
  | 11 => ("HandTablesModel", "deckPlace", "I", false)
  | 12 => ("HandTablesModel", "counted", "Z", false)
  | 13 => ("HandTablesModel", "boards", "I", false)
  | 14 => ("HandTablesModel", "wins", "[I", true)
  | 15 => ("HandTablesModel", "shares", "[I", true)
  | 16 => ("HandTablesModel", "left", "[I", true)
  | 17 => ("HandTablesModel", "leftCount", "I", false)
  | 18 => ("HandTablesModel", "most", "I", false)
  | _ => ("HandTablesModel", "aheads", "I", false)
abbrev cl_X : List vw_C := [("HandTables", T_A, 3), ("HandTablesModel", T_M, 20)]
theorem u_inA : ∀ w ∈ u_ws "HandTables" T_A 3, w ∈ gw := by decide +kernel
theorem u_inM : ∀ w ∈ u_ws "HandTablesModel" T_M 20, w ∈ gw := by decide +kernel
/-- where the object lies: the tables' numbers, the classes of long and int arrays, the object, its table, its deck -/
abbrev xo_E : Type := va_G × ClassId × ClassId × Nat × Nat × Nat
abbrev xo_a (g : xo_E) : Nat := g.2.2.2.1
abbrev xo_t (g : xo_E) : Nat := g.2.2.2.2.1
abbrev xo_d (g : xo_E) : Nat := g.2.2.2.2.2
abbrev xo_W (g : xo_E) (T : Nat → Int64) (K : Nat → Int32) (n : Int32) : va_W := [(xo_a g, .inr (0, [.ref (xo_t g), .ref (xo_d g), .int n])), (xo_t g, .inl (g.2.1, 7, .inr (.inl T))), (xo_d g, .inl (g.2.2.1, 52, .inl K))]
def xo_F (g : xo_E) (T : Nat → Int64) (K : Nat → Int32) (n : Int32) (U : State) : Prop := ta_F U ∧ ex_F U ∧ va_P g.1 cl_X (xo_W g T K n) U.heap ∧ va_K g.1 cl_X [(g.2.1, .long), (g.2.2.1, .int)] U
theorem bl_xo {g : xo_E} {T : Nat → Int64} {K : Nat → Int32} {n : Int32} : bl_F (xo_F g T K n) := by
  intro u U hW hh h
  obtain ⟨h1, h2, h3, h4⟩ := h
  exact ⟨bl_ta u U hW hh h1, bl_ex u U hW hh h2, by rw [hh]; exact h3, va_K.moved hW.alike h4⟩
theorem xo_rc {g : xo_E} {T : Nat → Int64} {K : Nat → Int32} {n : Int32} {s : State} (h : xo_F g T K n s) : ∃ cell : Cell, s.heap[xo_a g]? = some cell ∧ cell.vm.isStatics = false ∧ s.vm.findClass "HandTables" = some cell.cls :=
  va_recv (q0 := 0) (ci := 0) (q := ("HandTables", T_A, 3)) h.2.2.2 h.2.2.1 rfl rfl
theorem ri_then {P : Prop} [Decidable P] {X E : String} {w : Option Value} (h : (if P then (Sum.inl X : String ⊕ Option Value) else .inr w) = .inl E) : P ∧ X = E := by
  split at h
  · exact ⟨by assumption, Sum.inl.inj h⟩
  · cases h
theorem ri_else {P : Prop} [Decidable P] {X : String} {w v : Option Value} (h : (if P then (Sum.inl X : String ⊕ Option Value) else .inr w) = .inr v) : ¬ P ∧ w = v := by
  split at h
  · cases h
  · exact ⟨by assumption, Sum.inr.inj h⟩
section PZ2
variable {p : Program} {l : Launch} {e : Env} {R : Room} {s : State} {m : MethodId} {args : Array Value} {below : List Frame} {meth : Method} {c : Code} {cc : ByteArray} {pc : Nat} {ls : Array Slot} {res0 : String ⊕ Option Value}
theorem px_zret {v : Int32} (hexec : p.tables.exec = Jvm.exec) (hb : c.code = cc) (hr : meth.sig.returnType = some .boolean) (hlocks : meth.locks = false) (hdg : decode cc pc = .ok (.ireturn, 1)) (h01 : v = 0 ∨ v = 1) (hv : res0 = .inr (some (.int v))) :
    W p l e R s m args below meth c s.heap [] 0 0 (vx_MQ below (px_Q res0) (px_X res0) args s 1 6 (fun _ => False)) (F0 m pc ls [.int v]) := by
  refine W.widen (k := 1) (n := 6) (by omega) (by omega) (vx_ret (W.zret hexec hb hr ?_ (fun t ht _ => ⟨_, hv, rfl, ht⟩) (fun q h => nomatch h) hdg hlocks))
  rcases h01 with h | h <;> subst h <;> rfl
end PZ2
abbrev q_hand (x : Int64) : Prop := f_bc x < 5 ∨ 7 < f_bc x ∨ ¬ x &&& -4503599627370496 = 0
abbrev q_val (v : Int32) : Prop := v < 0 ∨ ¬ v < 7462
abbrev q_seat (k : Int32) : Prop := k < 0 ∨ ¬ k < 6
abbrev q_card (k : Int32) : Prop := k < 0 ∨ ¬ k < 52
def g_bs (T : Nat → Int64) : Int32 := f_bc (T (6 : Int32).toNatClampNeg)
def st_lp (T : Nat → Int64) : Nat → Int64 → Int64
  | 0, a => a
  | n + 1, a => st_lp T n (a ||| T (nI (7 - (n + 1))).toNatClampNeg)
def g_stand (T : Nat → Int64) : Int64 := st_lp T 7 0
def g_free (T : Nat → Int64) : Int64 := 4503599627370495 &&& (g_stand T ^^^ -1)
set_option maxRecDepth 20000 in
theorem kA_A_sortDeck : cv_W "HandTables" 17 "HandTables" yA_sortDeck bA_sortDeck 2 none 0 := ⟨(gw_mem 45 rfl rfl), (gw_mem 47 rfl rfl), (gw_mem 0 rfl rfl), (gw_mem 27 rfl rfl), (gw_mem 48 rfl rfl), by decide +kernel⟩
set_option maxRecDepth 20000 in
theorem kA_A_standing : cv_W "HandTables" 63 "HandTables" yA_standing bA_standing 4 (some .long) 0 := ⟨(gw_mem 300 rfl rfl), (gw_mem 302 rfl rfl), (gw_mem 3 rfl rfl), (gw_mem 27 rfl rfl), (gw_mem 303 rfl rfl), by decide +kernel⟩
set_option maxRecDepth 20000 in
theorem kA_A_missing : cv_W "HandTables" 69 "HandTables" yA_missing bA_missing 1 (some .int) 0 := ⟨(gw_mem 318 rfl rfl), (gw_mem 320 rfl rfl), (gw_mem 4 rfl rfl), (gw_mem 27 rfl rfl), (gw_mem 321 rfl rfl), by decide +kernel⟩
set_option maxRecDepth 20000 in
theorem kA_A_boardSize : cv_W "HandTables" 73 "HandTables" yA_boardSize bA_boardSize 1 (some .int) 0 := ⟨(gw_mem 65 rfl rfl), (gw_mem 67 rfl rfl), (gw_mem 1 rfl rfl), (gw_mem 27 rfl rfl), (gw_mem 68 rfl rfl), by decide +kernel⟩
set_option maxRecDepth 20000 in
theorem kA_A_requireTaken : cv_W "HandTables" 76 "HandTables" yA_requireTaken bA_requireTaken 2 none 1 := ⟨(gw_mem 337 rfl rfl), (gw_mem 339 rfl rfl), (gw_mem 5 rfl rfl), (gw_mem 27 rfl rfl), (gw_mem 340 rfl rfl), by decide +kernel⟩
set_option maxRecDepth 20000 in
theorem kA_A_requireThreeOnBoard : cv_W "HandTables" 79 "HandTables" yA_requireThreeOnBoard bA_requireThreeOnBoard 1 none 0 := ⟨(gw_mem 357 rfl rfl), (gw_mem 359 rfl rfl), (gw_mem 6 rfl rfl), (gw_mem 27 rfl rfl), (gw_mem 360 rfl rfl), by decide +kernel⟩
set_option maxRecDepth 20000 in
theorem kA_A_free : cv_W "HandTables" 91 "HandTables" yA_free bA_free 1 (some .long) 0 := ⟨(gw_mem 380 rfl rfl), (gw_mem 382 rfl rfl), (gw_mem 7 rfl rfl), (gw_mem 27 rfl rfl), (gw_mem 383 rfl rfl), by decide +kernel⟩
set_option maxHeartbeats 4000000 in
set_option maxRecDepth 100000 in
theorem cA_requireHand (l : Launch) (x : Int64) (hst : l.stackTraces = false)  : px_M l yA_requireHand bA_requireHand 3 none 6 [.long x] ex_F (if q_hand x then .inl ex_IA else .inr none) := by
  refine vx_ofW (cc := bA_requireHand) (maxL := 3) (ret := none) (by decide) rfl ?_
  intro p e s m args below meth c s₁ BB hml hout hv
  obtain ⟨rfl, hB⟩ := hv
  have hx := BB.exec
  have hb := BB.bytes
  have hr := BB.returns
  have hlk := BB.notSynchronized
  have hts := atoms_spec (ws := wd yA_requireHand bA_requireHand 3 none) BB.pre
  have hown : s.vm.findClass "HandTables" = some m.cls := findClass_of_methodNamed BB.named
  have hS : CallFix p m c bA_requireHand 3 s _ (wd yA_requireHand bA_requireHand 3 none) "HandTables" := ⟨hx, hb, hml, hown, hts⟩
  have hl := lv_entry ([.long x]) (n := 3) (Nat.le_of_ble_eq_true rfl)
  rw [lg_entry_eq]
  generalize (lg_sl ([.long x]) ++ List.replicate (3 - (lg_sl ([.long x])).length) Slot.unset).toArray = ls at hl ⊢
  have hl : lv_has ls 3 [(0, .long x)] := hl
  refine lv_lload_n hx hb dA_requireHand_0 rfl (lv_at hl 0 rfl) ?_
  refine pu_S (cJ_bitCount l _) rfl kA_J_bitCount hS bl_T trivial rfl ⟨Nat.le_of_ble_eq_true rfl, Nat.le_of_ble_eq_true rfl⟩ hl.1 rfl (Nat.le_of_ble_eq_true rfl) ⟨Nat.zero_le _, Nat.zero_le _⟩ dA_requireHand_1 ?_
  refine lv_topi (fun x1 ex1 => ?_)
  refine lv_istore_n (lv' := [(2, .int x1), (0, .long x)]) hx hb dA_requireHand_4 rfl hl (by decide) rfl (fun ls hl => ?_)
  refine lv_iload_n hx hb dA_requireHand_5 rfl (lv_at hl 0 rfl) ?_
  refine lv_iconst (v := 5) hx hb dA_requireHand_6 (by decide) ?_
  refine lv_icmp_lt (tgt := 26) hx hb dA_requireHand_7 (by decide) (fun hc2 => ?_) (fun hc2 => ?_)
  · exact px_throw (cls := ex_IA) (text := "not five to seven cards") hx hb hst hown hts hB (by decide +kernel) (gw_mem 97 rfl rfl) (gw_mem 33 rfl rfl) (by decide) at_IA an_IA ag_IA (by rw [hml]; exact hl.1) dA_requireHand_26 dA_requireHand_29 dA_requireHand_30 dA_requireHand_32 dA_requireHand_35 hout (Nat.le_of_ble_eq_true rfl) (Nat.le_of_ble_eq_true rfl) (Nat.le_of_ble_eq_true rfl) (Nat.le_of_ble_eq_true rfl) hlk (by subst ex1; exact if_pos (Or.inl hc2))
  · refine lv_iload_n hx hb dA_requireHand_10 rfl (lv_at hl 0 rfl) ?_
    refine lv_bipush (v := 7) hx hb dA_requireHand_11 (by decide) ?_
    refine lv_icmp_gt (tgt := 26) hx hb dA_requireHand_13 (by decide) (fun hc3 => ?_) (fun hc3 => ?_)
    · exact px_throw (cls := ex_IA) (text := "not five to seven cards") hx hb hst hown hts hB (by decide +kernel) (gw_mem 97 rfl rfl) (gw_mem 33 rfl rfl) (by decide) at_IA an_IA ag_IA (by rw [hml]; exact hl.1) dA_requireHand_26 dA_requireHand_29 dA_requireHand_30 dA_requireHand_32 dA_requireHand_35 hout (Nat.le_of_ble_eq_true rfl) (Nat.le_of_ble_eq_true rfl) (Nat.le_of_ble_eq_true rfl) (Nat.le_of_ble_eq_true rfl) hlk (by subst ex1; exact if_pos (Or.inr (Or.inl hc3)))
    · refine lv_lload_n hx hb dA_requireHand_16 rfl (lv_at hl 1 rfl) ?_
      refine lv_ldc2 (v := (-4503599627370496)) hx hb hown (hts _ (wd_in (gw_mem 96 rfl rfl))) dA_requireHand_17 ?_
      refine lv_land hx hb dA_requireHand_20 ?_
      refine lv_lconst (v := 0) hx hb dA_requireHand_21 (by decide) ?_
      refine jv_lceq (tgt := 36) hx hb dA_requireHand_22 dA_requireHand_23 (by decide) (fun hc4 => ?_) (fun hc4 => ?_)
      · exact px_vret hx hb hr hlk dA_requireHand_36 (by subst ex1; exact if_neg (fun h => by rcases h with h | h | h <;> contradiction))
      · exact px_throw (cls := ex_IA) (text := "not five to seven cards") hx hb hst hown hts hB (by decide +kernel) (gw_mem 97 rfl rfl) (gw_mem 33 rfl rfl) (by decide) at_IA an_IA ag_IA (by rw [hml]; exact hl.1) dA_requireHand_26 dA_requireHand_29 dA_requireHand_30 dA_requireHand_32 dA_requireHand_35 hout (Nat.le_of_ble_eq_true rfl) (Nat.le_of_ble_eq_true rfl) (Nat.le_of_ble_eq_true rfl) (Nat.le_of_ble_eq_true rfl) hlk (by subst ex1; exact if_pos (Or.inr (Or.inr hc4)))
set_option maxHeartbeats 4000000 in
set_option maxRecDepth 100000 in
theorem cA_requireValue (l : Launch) (k : Int32) (hst : l.stackTraces = false)  : px_M l yA_requireValue bA_requireValue 1 none 6 [.int k] ex_F (if q_val k then .inl ex_IA else .inr none) := by
  refine vx_ofW (cc := bA_requireValue) (maxL := 1) (ret := none) (by decide) rfl ?_
  intro p e s m args below meth c s₁ BB hml hout hv
  obtain ⟨rfl, hB⟩ := hv
  have hx := BB.exec
  have hb := BB.bytes
  have hr := BB.returns
  have hlk := BB.notSynchronized
  have hts := atoms_spec (ws := wd yA_requireValue bA_requireValue 1 none) BB.pre
  have hown : s.vm.findClass "HandTables" = some m.cls := findClass_of_methodNamed BB.named
  have hS : CallFix p m c bA_requireValue 1 s _ (wd yA_requireValue bA_requireValue 1 none) "HandTables" := ⟨hx, hb, hml, hown, hts⟩
  have hl := lv_entry ([.int k]) (n := 1) (Nat.le_of_ble_eq_true rfl)
  rw [lg_entry_eq]
  generalize (lg_sl ([.int k]) ++ List.replicate (1 - (lg_sl ([.int k])).length) Slot.unset).toArray = ls at hl ⊢
  have hl : lv_has ls 1 [(0, .int k)] := hl
  refine lv_iload_n hx hb dA_requireValue_0 rfl (lv_at hl 0 rfl) ?_
  refine lv_if_lt (tgt := 11) hx hb dA_requireValue_1 (by decide) (fun hc1 => ?_) (fun hc1 => ?_)
  · exact px_throw (cls := ex_IA) (text := "no such value") hx hb hst hown hts hB (by decide +kernel) (gw_mem 97 rfl rfl) (gw_mem 33 rfl rfl) (by decide) at_IA an_IA ag_IA (by rw [hml]; exact hl.1) dA_requireValue_11 dA_requireValue_14 dA_requireValue_15 dA_requireValue_17 dA_requireValue_20 hout (Nat.le_of_ble_eq_true rfl) (Nat.le_of_ble_eq_true rfl) (Nat.le_of_ble_eq_true rfl) (Nat.le_of_ble_eq_true rfl) hlk (by exact if_pos (Or.inl hc1))
  · refine lv_iload_n hx hb dA_requireValue_4 rfl (lv_at hl 0 rfl) ?_
    refine lv_sipush (v := 7462) hx hb dA_requireValue_5 (by decide) ?_
    refine lv_icmp_lt (tgt := 21) hx hb dA_requireValue_8 (by decide) (fun hc2 => ?_) (fun hc2 => ?_)
    · exact px_vret hx hb hr hlk dA_requireValue_21 (by exact if_neg (fun h => by rcases h with h | h <;> contradiction))
    · exact px_throw (cls := ex_IA) (text := "no such value") hx hb hst hown hts hB (by decide +kernel) (gw_mem 97 rfl rfl) (gw_mem 33 rfl rfl) (by decide) at_IA an_IA ag_IA (by rw [hml]; exact hl.1) dA_requireValue_11 dA_requireValue_14 dA_requireValue_15 dA_requireValue_17 dA_requireValue_20 hout (Nat.le_of_ble_eq_true rfl) (Nat.le_of_ble_eq_true rfl) (Nat.le_of_ble_eq_true rfl) (Nat.le_of_ble_eq_true rfl) hlk (by exact if_pos (Or.inr hc2))
set_option maxHeartbeats 4000000 in
set_option maxRecDepth 100000 in
theorem cA_requireSeat (l : Launch) (k : Int32) (hst : l.stackTraces = false)  : px_M l yA_requireSeat bA_requireSeat 1 none 6 [.int k] ex_F (if q_seat k then .inl ex_IO else .inr none) := by
  refine vx_ofW (cc := bA_requireSeat) (maxL := 1) (ret := none) (by decide) rfl ?_
  intro p e s m args below meth c s₁ BB hml hout hv
  obtain ⟨rfl, hB⟩ := hv
  have hx := BB.exec
  have hb := BB.bytes
  have hr := BB.returns
  have hlk := BB.notSynchronized
  have hts := atoms_spec (ws := wd yA_requireSeat bA_requireSeat 1 none) BB.pre
  have hown : s.vm.findClass "HandTables" = some m.cls := findClass_of_methodNamed BB.named
  have hS : CallFix p m c bA_requireSeat 1 s _ (wd yA_requireSeat bA_requireSeat 1 none) "HandTables" := ⟨hx, hb, hml, hown, hts⟩
  have hl := lv_entry ([.int k]) (n := 1) (Nat.le_of_ble_eq_true rfl)
  rw [lg_entry_eq]
  generalize (lg_sl ([.int k]) ++ List.replicate (1 - (lg_sl ([.int k])).length) Slot.unset).toArray = ls at hl ⊢
  have hl : lv_has ls 1 [(0, .int k)] := hl
  refine lv_iload_n hx hb dA_requireSeat_0 rfl (lv_at hl 0 rfl) ?_
  refine lv_if_lt (tgt := 10) hx hb dA_requireSeat_1 (by decide) (fun hc1 => ?_) (fun hc1 => ?_)
  · exact px_throw (cls := ex_IO) (text := "no such seat") hx hb hst hown hts hB (by decide +kernel) (gw_mem 280 rfl rfl) (gw_mem 34 rfl rfl) (by decide) at_IO an_IO ag_IO (by rw [hml]; exact hl.1) dA_requireSeat_10 dA_requireSeat_13 dA_requireSeat_14 dA_requireSeat_16 dA_requireSeat_19 hout (Nat.le_of_ble_eq_true rfl) (Nat.le_of_ble_eq_true rfl) (Nat.le_of_ble_eq_true rfl) (Nat.le_of_ble_eq_true rfl) hlk (by exact if_pos (Or.inl hc1))
  · refine lv_iload_n hx hb dA_requireSeat_4 rfl (lv_at hl 0 rfl) ?_
    refine lv_bipush (v := 6) hx hb dA_requireSeat_5 (by decide) ?_
    refine lv_icmp_lt (tgt := 20) hx hb dA_requireSeat_7 (by decide) (fun hc2 => ?_) (fun hc2 => ?_)
    · exact px_vret hx hb hr hlk dA_requireSeat_20 (by exact if_neg (fun h => by rcases h with h | h <;> contradiction))
    · exact px_throw (cls := ex_IO) (text := "no such seat") hx hb hst hown hts hB (by decide +kernel) (gw_mem 280 rfl rfl) (gw_mem 34 rfl rfl) (by decide) at_IO an_IO ag_IO (by rw [hml]; exact hl.1) dA_requireSeat_10 dA_requireSeat_13 dA_requireSeat_14 dA_requireSeat_16 dA_requireSeat_19 hout (Nat.le_of_ble_eq_true rfl) (Nat.le_of_ble_eq_true rfl) (Nat.le_of_ble_eq_true rfl) (Nat.le_of_ble_eq_true rfl) hlk (by exact if_pos (Or.inr hc2))
set_option maxHeartbeats 4000000 in
set_option maxRecDepth 100000 in
theorem cA_requireCard (l : Launch) (k : Int32) (hst : l.stackTraces = false)  : px_M l yA_requireCard bA_requireCard 1 none 6 [.int k] ex_F (if q_card k then .inl ex_IA else .inr none) := by
  refine vx_ofW (cc := bA_requireCard) (maxL := 1) (ret := none) (by decide) rfl ?_
  intro p e s m args below meth c s₁ BB hml hout hv
  obtain ⟨rfl, hB⟩ := hv
  have hx := BB.exec
  have hb := BB.bytes
  have hr := BB.returns
  have hlk := BB.notSynchronized
  have hts := atoms_spec (ws := wd yA_requireCard bA_requireCard 1 none) BB.pre
  have hown : s.vm.findClass "HandTables" = some m.cls := findClass_of_methodNamed BB.named
  have hS : CallFix p m c bA_requireCard 1 s _ (wd yA_requireCard bA_requireCard 1 none) "HandTables" := ⟨hx, hb, hml, hown, hts⟩
  have hl := lv_entry ([.int k]) (n := 1) (Nat.le_of_ble_eq_true rfl)
  rw [lg_entry_eq]
  generalize (lg_sl ([.int k]) ++ List.replicate (1 - (lg_sl ([.int k])).length) Slot.unset).toArray = ls at hl ⊢
  have hl : lv_has ls 1 [(0, .int k)] := hl
  refine lv_iload_n hx hb dA_requireCard_0 rfl (lv_at hl 0 rfl) ?_
  refine lv_if_lt (tgt := 10) hx hb dA_requireCard_1 (by decide) (fun hc1 => ?_) (fun hc1 => ?_)
  · exact px_throw (cls := ex_IA) (text := "no card") hx hb hst hown hts hB (by decide +kernel) (gw_mem 97 rfl rfl) (gw_mem 33 rfl rfl) (by decide) at_IA an_IA ag_IA (by rw [hml]; exact hl.1) dA_requireCard_10 dA_requireCard_13 dA_requireCard_14 dA_requireCard_16 dA_requireCard_19 hout (Nat.le_of_ble_eq_true rfl) (Nat.le_of_ble_eq_true rfl) (Nat.le_of_ble_eq_true rfl) (Nat.le_of_ble_eq_true rfl) hlk (by exact if_pos (Or.inl hc1))
  · refine lv_iload_n hx hb dA_requireCard_4 rfl (lv_at hl 0 rfl) ?_
    refine lv_bipush (v := 52) hx hb dA_requireCard_5 (by decide) ?_
    refine lv_icmp_lt (tgt := 20) hx hb dA_requireCard_7 (by decide) (fun hc2 => ?_) (fun hc2 => ?_)
    · exact px_vret hx hb hr hlk dA_requireCard_20 (by exact if_neg (fun h => by rcases h with h | h <;> contradiction))
    · exact px_throw (cls := ex_IA) (text := "no card") hx hb hst hown hts hB (by decide +kernel) (gw_mem 97 rfl rfl) (gw_mem 33 rfl rfl) (by decide) at_IA an_IA ag_IA (by rw [hml]; exact hl.1) dA_requireCard_10 dA_requireCard_13 dA_requireCard_14 dA_requireCard_16 dA_requireCard_19 hout (Nat.le_of_ble_eq_true rfl) (Nat.le_of_ble_eq_true rfl) (Nat.le_of_ble_eq_true rfl) (Nat.le_of_ble_eq_true rfl) hlk (by exact if_pos (Or.inr hc2))
set_option maxHeartbeats 4000000 in
set_option maxRecDepth 100000 in
theorem cA_boardSize (l : Launch) (g : xo_E) (T : Nat → Int64) (dk : Nat → Int32) (dn : Int32)   : pu_M l yA_boardSize bA_boardSize 1 (some .int) 1 [.ref (xo_a g)] (xo_F g T dk dn) (.int (g_bs T)) := by
  refine Met.ofW (cc := bA_boardSize) (maxL := 1) (ret := (some .int)) (by decide) rfl ?_
  intro p e s m args below meth c s₁ BB hml hv
  obtain ⟨rfl, hB⟩ := hv
  have hx := BB.exec
  have hb := BB.bytes
  have hr := BB.returns
  have hlk := BB.notSynchronized
  have hts := atoms_spec (ws := wd yA_boardSize bA_boardSize 1 (some .int)) BB.pre
  have hown : s.vm.findClass "HandTables" = some m.cls := findClass_of_methodNamed BB.named
  have hS : CallFix p m c bA_boardSize 1 s _ (wd yA_boardSize bA_boardSize 1 (some .int)) "HandTables" := ⟨hx, hb, hml, hown, hts⟩
  obtain ⟨hTa, hEx, hP, hK⟩ := id hB
  obtain ⟨⟨t1, hT1⟩, ⟨t2, hT2⟩, ⟨t3, hT3⟩, ⟨t4, hT4⟩⟩ := id hTa
  have hl := lv_entry ([.ref (xo_a g)]) (n := 1) (Nat.le_of_ble_eq_true rfl)
  rw [lg_entry_eq]
  generalize (lg_sl ([.ref (xo_a g)]) ++ List.replicate (1 - (lg_sl ([.ref (xo_a g)])).length) Slot.unset).toArray = ls at hl ⊢
  have hl : lv_has ls 1 [(0, .ref (xo_a g))] := hl
  refine lv_aload_n hx hb dA_boardSize_0 rfl (lv_at hl 0 rfl) ?_
  refine va_get (D := g.1) (ci := 0) (v := .ref (xo_t g)) (C := "HandTables") (T := T_A) (N := 3) hx hb hts (fun w hw => wd_in (u_inA w hw)) hown hK hP 0 rfl rfl 0 (by decide) (hts _ (wd_in (gw_mem 49 rfl rfl))) (fun _ h => h) rfl dA_boardSize_1 ?_
  refine lv_bipush (v := 6) hx hb dA_boardSize_4 (by decide) ?_
  refine va_lald hx hb hK hP 1 0 rfl rfl (by unfold vp_in; decide) dA_boardSize_6 ?_
  refine pu_S (cJ_bitCount l _) rfl kA_J_bitCount hS bl_T trivial rfl ⟨Nat.le_of_ble_eq_true rfl, Nat.le_of_ble_eq_true rfl⟩ hl.1 rfl (Nat.le_of_ble_eq_true rfl) ⟨Nat.zero_le _, Nat.zero_le _⟩ dA_boardSize_7 ?_
  exact pu_iret hx hb hr hlk dA_boardSize_10 (by rfl)
set_option maxHeartbeats 4000000 in
set_option maxRecDepth 100000 in
theorem cA_missing (l : Launch) (g : xo_E) (T : Nat → Int64) (dk : Nat → Int32) (dn : Int32)   : pu_M l yA_missing bA_missing 1 (some .int) 2 [.ref (xo_a g)] (xo_F g T dk dn) (.int (5 - g_bs T)) := by
  refine Met.ofW (cc := bA_missing) (maxL := 1) (ret := (some .int)) (by decide) rfl ?_
  intro p e s m args below meth c s₁ BB hml hv
  obtain ⟨rfl, hB⟩ := hv
  have hx := BB.exec
  have hb := BB.bytes
  have hr := BB.returns
  have hlk := BB.notSynchronized
  have hts := atoms_spec (ws := wd yA_missing bA_missing 1 (some .int)) BB.pre
  have hown : s.vm.findClass "HandTables" = some m.cls := findClass_of_methodNamed BB.named
  have hS : CallFix p m c bA_missing 1 s _ (wd yA_missing bA_missing 1 (some .int)) "HandTables" := ⟨hx, hb, hml, hown, hts⟩
  obtain ⟨hTa, hEx, hP, hK⟩ := id hB
  obtain ⟨⟨t1, hT1⟩, ⟨t2, hT2⟩, ⟨t3, hT3⟩, ⟨t4, hT4⟩⟩ := id hTa
  have hl := lv_entry ([.ref (xo_a g)]) (n := 1) (Nat.le_of_ble_eq_true rfl)
  rw [lg_entry_eq]
  generalize (lg_sl ([.ref (xo_a g)]) ++ List.replicate (1 - (lg_sl ([.ref (xo_a g)])).length) Slot.unset).toArray = ls at hl ⊢
  have hl : lv_has ls 1 [(0, .ref (xo_a g))] := hl
  refine lv_iconst (v := 5) hx hb dA_missing_0 (by decide) ?_
  refine lv_aload_n hx hb dA_missing_1 rfl (lv_at hl 0 rfl) ?_
  refine pu_V (cA_boardSize l g T dk dn ) rfl kA_A_boardSize hS bl_xo hB rfl (xo_rc hB) ⟨Nat.le_of_ble_eq_true rfl, Nat.le_of_ble_eq_true rfl⟩ hl.1 rfl (Nat.le_of_ble_eq_true rfl) ⟨Nat.zero_le _, Nat.zero_le _⟩ dA_missing_2 ?_
  refine lv_isub hx hb dA_missing_5 ?_
  exact pu_iret hx hb hr hlk dA_missing_6 (by rfl)
set_option maxHeartbeats 4000000 in
set_option maxRecDepth 100000 in
theorem cA_standing (l : Launch) (g : xo_E) (T : Nat → Int64) (dk : Nat → Int32) (dn : Int32)   : pu_M l yA_standing bA_standing 4 (some .long) 0 [.ref (xo_a g)] (xo_F g T dk dn) (.long (g_stand T)) := by
  refine Met.ofW (cc := bA_standing) (maxL := 4) (ret := (some .long)) (by decide) rfl ?_
  intro p e s m args below meth c s₁ BB hml hv
  obtain ⟨rfl, hB⟩ := hv
  have hx := BB.exec
  have hb := BB.bytes
  have hr := BB.returns
  have hlk := BB.notSynchronized
  have hts := atoms_spec (ws := wd yA_standing bA_standing 4 (some .long)) BB.pre
  have hown : s.vm.findClass "HandTables" = some m.cls := findClass_of_methodNamed BB.named
  have hS : CallFix p m c bA_standing 4 s _ (wd yA_standing bA_standing 4 (some .long)) "HandTables" := ⟨hx, hb, hml, hown, hts⟩
  obtain ⟨hTa, hEx, hP, hK⟩ := id hB
  obtain ⟨⟨t1, hT1⟩, ⟨t2, hT2⟩, ⟨t3, hT3⟩, ⟨t4, hT4⟩⟩ := id hTa
  have hl := lv_entry ([.ref (xo_a g)]) (n := 4) (Nat.le_of_ble_eq_true rfl)
  rw [lg_entry_eq]
  generalize (lg_sl ([.ref (xo_a g)]) ++ List.replicate (4 - (lg_sl ([.ref (xo_a g)])).length) Slot.unset).toArray = ls at hl ⊢
  have hl : lv_has ls 4 [(0, .ref (xo_a g))] := hl
  refine lv_lconst (v := 0) hx hb dA_standing_0 (by decide) ?_
  refine lv_topl (fun x1 ex1 => ?_)
  refine lv_lstore_n (lv' := [(1, .long x1), (0, .ref (xo_a g))]) hx hb dA_standing_1 rfl hl (by decide) rfl (fun ls hl => ?_)
  refine lv_iconst (v := 0) hx hb dA_standing_2 (by decide) ?_
  refine lv_topi (fun x2 ex2 => ?_)
  refine lv_istore_n (lv' := [(3, .int x2), (1, .long x1), (0, .ref (xo_a g))]) hx hb dA_standing_3 rfl hl (by decide) rfl (fun ls hl => ?_)
  have hloop : ∀ (n : Nat) (a : Int64) (ls : Array Slot), lv_has ls 4 [(3, .int (nI (7 - n))), (1, .long a), (0, .ref (xo_a g))] → (n ≤ 7) → (∀ ls : Array Slot, lv_has ls 4 [(1, .long (st_lp T n a))] → W p l e (headSpec (wd yA_standing bA_standing 4 (some .long)) (rmD 0 0 0)).room s m ([.ref (xo_a g)]).toArray below meth c s.heap [] 0 0 (MQ below (pu_Q (.long (g_stand T))) ([.ref (xo_a g)]).toArray s 0 0 (fun _ => False)) (F0 m 25 ls [])) → W p l e (headSpec (wd yA_standing bA_standing 4 (some .long)) (rmD 0 0 0)).room s m ([.ref (xo_a g)]).toArray below meth c s.heap [] 0 0 (MQ below (pu_Q (.long (g_stand T))) ([.ref (xo_a g)]).toArray s 0 0 (fun _ => False)) (F0 m 4 ls []) := by
    intro n
    induction n with
    | zero =>
      intro a ls hl hn K
      refine lv_iload_n hx hb dA_standing_4 rfl (lv_at hl 0 rfl) ?_
      refine lv_bipush (v := 6) hx hb dA_standing_5 (by decide) ?_
      refine lv_icmp_gt (tgt := 25) hx hb dA_standing_7 (by decide) (fun hc3 => ?_) (fun hc3 => ?_)
      · simp only [st_lp] at K
        exact K _ (lv_sub hl [1] rfl)
      · exact absurd (by decide) hc3
    | succ n ih =>
      intro a ls hl hn K
      refine lv_iload_n hx hb dA_standing_4 rfl (lv_at hl 0 rfl) ?_
      refine lv_bipush (v := 6) hx hb dA_standing_5 (by decide) ?_
      refine lv_icmp_gt (tgt := 25) hx hb dA_standing_7 (by decide) (fun hc4 => ?_) (fun hc4 => ?_)
      · exact absurd hc4 (by have := nI_nlt (a := 6) (b := 7 - (n + 1)) (by omega) (by decide); exact this)
      · refine lv_lload_n hx hb dA_standing_10 rfl (lv_at hl 1 rfl) ?_
        refine lv_aload_n hx hb dA_standing_11 rfl (lv_at hl 2 rfl) ?_
        refine va_get (D := g.1) (ci := 0) (v := .ref (xo_t g)) (C := "HandTables") (T := T_A) (N := 3) hx hb hts (fun w hw => wd_in (u_inA w hw)) hown hK hP 0 rfl rfl 0 (by decide) (hts _ (wd_in (gw_mem 49 rfl rfl))) (fun _ h => h) rfl dA_standing_12 ?_
        refine lv_iload_n hx hb dA_standing_15 rfl (lv_at hl 0 rfl) ?_
        refine va_lald hx hb hK hP 1 0 rfl rfl (vp_in_nI (by omega) (by decide)) dA_standing_16 ?_
        refine lv_lor hx hb dA_standing_17 ?_
        refine lv_topl (fun x5 ex5 => ?_)
        refine lv_lstore_n (lv' := [(1, .long x5), (3, .int (nI (7 - (n + 1)))), (0, .ref (xo_a g))]) hx hb dA_standing_18 rfl hl (by decide) rfl (fun ls hl => ?_)
        refine jv_iinc (a := 1) hx hb dA_standing_19 hl (k := 1) rfl (by decide) (by decide) (fun x6 ex6 ls hl => ?_)
        have hl : lv_has ls 4 [(3, .int x6), (1, .long x5), (0, .ref (xo_a g))] := hl
        refine lv_goto (tgt := 4) hx hb dA_standing_22 (by decide) ?_
        rw [nI_up (by omega)] at ex6
        subst ex6 ex5
        simp only [st_lp] at K
        exact ih _ ls (lv_sub hl [0, 1, 2] rfl) (by omega) K
  refine hloop 7 x1 ls (by have h9 := lv_sub hl [0, 1, 2] rfl; subst ex2; exact h9) (by decide) (fun ls hl => ?_)
  clear hloop
  obtain ⟨y7, ey7⟩ : ∃ z, z = (st_lp T 7 x1) := ⟨_, rfl⟩
  rw [← ey7] at hl
  refine lv_lload_n hx hb dA_standing_25 rfl (lv_at hl 0 rfl) ?_
  exact pu_lret hx hb hr hlk dA_standing_26 (by subst ey7 ex2 ex1; rfl)
set_option maxHeartbeats 4000000 in
set_option maxRecDepth 100000 in
theorem cA_free (l : Launch) (g : xo_E) (T : Nat → Int64) (dk : Nat → Int32) (dn : Int32)   : pu_M l yA_free bA_free 1 (some .long) 1 [.ref (xo_a g)] (xo_F g T dk dn) (.long (g_free T)) := by
  refine Met.ofW (cc := bA_free) (maxL := 1) (ret := (some .long)) (by decide) rfl ?_
  intro p e s m args below meth c s₁ BB hml hv
  obtain ⟨rfl, hB⟩ := hv
  have hx := BB.exec
  have hb := BB.bytes
  have hr := BB.returns
  have hlk := BB.notSynchronized
  have hts := atoms_spec (ws := wd yA_free bA_free 1 (some .long)) BB.pre
  have hown : s.vm.findClass "HandTables" = some m.cls := findClass_of_methodNamed BB.named
  have hS : CallFix p m c bA_free 1 s _ (wd yA_free bA_free 1 (some .long)) "HandTables" := ⟨hx, hb, hml, hown, hts⟩
  obtain ⟨hTa, hEx, hP, hK⟩ := id hB
  obtain ⟨⟨t1, hT1⟩, ⟨t2, hT2⟩, ⟨t3, hT3⟩, ⟨t4, hT4⟩⟩ := id hTa
  have hl := lv_entry ([.ref (xo_a g)]) (n := 1) (Nat.le_of_ble_eq_true rfl)
  rw [lg_entry_eq]
  generalize (lg_sl ([.ref (xo_a g)]) ++ List.replicate (1 - (lg_sl ([.ref (xo_a g)])).length) Slot.unset).toArray = ls at hl ⊢
  have hl : lv_has ls 1 [(0, .ref (xo_a g))] := hl
  refine lv_ldc2 (v := 4503599627370495) hx hb hown (hts _ (wd_in (gw_mem 384 rfl rfl))) dA_free_0 ?_
  refine lv_aload_n hx hb dA_free_3 rfl (lv_at hl 0 rfl) ?_
  refine pu_V (cA_standing l g T dk dn ) rfl kA_A_standing hS bl_xo hB rfl (xo_rc hB) ⟨Nat.le_of_ble_eq_true rfl, Nat.le_of_ble_eq_true rfl⟩ hl.1 rfl (Nat.le_of_ble_eq_true rfl) ⟨Nat.zero_le _, Nat.zero_le _⟩ dA_free_4 ?_
  refine lv_ldc2 (v := (-1)) hx hb hown (hts _ (wd_in (gw_mem 183 rfl rfl))) dA_free_7 ?_
  refine lv_lxor hx hb dA_free_10 ?_
  refine lv_land hx hb dA_free_11 ?_
  exact pu_lret hx hb hr hlk dA_free_12 (by rfl)
set_option maxHeartbeats 4000000 in
set_option maxRecDepth 100000 in
theorem cA_requireTaken (l : Launch) (g : xo_E) (T : Nat → Int64) (dk : Nat → Int32) (dn : Int32) (k : Int32) (hst : l.stackTraces = false) (hk : vp_in k 7) : px_M l yA_requireTaken bA_requireTaken 2 none 6 [.ref (xo_a g), .int k] (xo_F g T dk dn) (if T k.toNatClampNeg = 0 then .inl ex_IS else .inr none) := by
  refine vx_ofW (cc := bA_requireTaken) (maxL := 2) (ret := none) (by decide) rfl ?_
  intro p e s m args below meth c s₁ BB hml hout hv
  obtain ⟨rfl, hB⟩ := hv
  have hx := BB.exec
  have hb := BB.bytes
  have hr := BB.returns
  have hlk := BB.notSynchronized
  have hts := atoms_spec (ws := wd yA_requireTaken bA_requireTaken 2 none) BB.pre
  have hown : s.vm.findClass "HandTables" = some m.cls := findClass_of_methodNamed BB.named
  have hS : CallFix p m c bA_requireTaken 2 s _ (wd yA_requireTaken bA_requireTaken 2 none) "HandTables" := ⟨hx, hb, hml, hown, hts⟩
  obtain ⟨hTa, hEx, hP, hK⟩ := id hB
  obtain ⟨⟨t1, hT1⟩, ⟨t2, hT2⟩, ⟨t3, hT3⟩, ⟨t4, hT4⟩⟩ := id hTa
  have hl := lv_entry ([.ref (xo_a g), .int k]) (n := 2) (Nat.le_of_ble_eq_true rfl)
  rw [lg_entry_eq]
  generalize (lg_sl ([.ref (xo_a g), .int k]) ++ List.replicate (2 - (lg_sl ([.ref (xo_a g), .int k])).length) Slot.unset).toArray = ls at hl ⊢
  have hl : lv_has ls 2 [(0, .ref (xo_a g)), (1, .int k)] := hl
  refine lv_aload_n hx hb dA_requireTaken_0 rfl (lv_at hl 0 rfl) ?_
  refine va_get (D := g.1) (ci := 0) (v := .ref (xo_t g)) (C := "HandTables") (T := T_A) (N := 3) hx hb hts (fun w hw => wd_in (u_inA w hw)) hown hK hP 0 rfl rfl 0 (by decide) (hts _ (wd_in (gw_mem 49 rfl rfl))) (fun _ h => h) rfl dA_requireTaken_1 ?_
  refine lv_iload_n hx hb dA_requireTaken_4 rfl (lv_at hl 1 rfl) ?_
  refine va_lald hx hb hK hP 1 0 rfl rfl hk dA_requireTaken_5 ?_
  refine lv_lconst (v := 0) hx hb dA_requireTaken_6 (by decide) ?_
  refine jv_lcne (tgt := 21) hx hb dA_requireTaken_7 dA_requireTaken_8 (by decide) (fun hc1 => ?_) (fun hc1 => ?_)
  · exact px_vret hx hb hr hlk dA_requireTaken_21 (by exact if_neg hc1)
  · exact px_throw (cls := ex_IS) (text := "the seat is empty") hx hb hst hown hts hEx (by decide +kernel) (gw_mem 341 rfl rfl) (gw_mem 35 rfl rfl) (by decide) at_IS an_IS ag_IS (by rw [hml]; exact hl.1) dA_requireTaken_11 dA_requireTaken_14 dA_requireTaken_15 dA_requireTaken_17 dA_requireTaken_20 hout (Nat.le_of_ble_eq_true rfl) (Nat.le_of_ble_eq_true rfl) (Nat.le_of_ble_eq_true rfl) (Nat.le_of_ble_eq_true rfl) hlk (by exact if_pos hc1)
set_option maxHeartbeats 4000000 in
set_option maxRecDepth 100000 in
theorem cA_requireThreeOnBoard (l : Launch) (g : xo_E) (T : Nat → Int64) (dk : Nat → Int32) (dn : Int32)  (hst : l.stackTraces = false)  : px_M l yA_requireThreeOnBoard bA_requireThreeOnBoard 1 none 6 [.ref (xo_a g)] (xo_F g T dk dn) (if g_bs T < 3 then .inl ex_IS else .inr none) := by
  refine vx_ofW (cc := bA_requireThreeOnBoard) (maxL := 1) (ret := none) (by decide) rfl ?_
  intro p e s m args below meth c s₁ BB hml hout hv
  obtain ⟨rfl, hB⟩ := hv
  have hx := BB.exec
  have hb := BB.bytes
  have hr := BB.returns
  have hlk := BB.notSynchronized
  have hts := atoms_spec (ws := wd yA_requireThreeOnBoard bA_requireThreeOnBoard 1 none) BB.pre
  have hown : s.vm.findClass "HandTables" = some m.cls := findClass_of_methodNamed BB.named
  have hS : CallFix p m c bA_requireThreeOnBoard 1 s _ (wd yA_requireThreeOnBoard bA_requireThreeOnBoard 1 none) "HandTables" := ⟨hx, hb, hml, hown, hts⟩
  obtain ⟨hTa, hEx, hP, hK⟩ := id hB
  obtain ⟨⟨t1, hT1⟩, ⟨t2, hT2⟩, ⟨t3, hT3⟩, ⟨t4, hT4⟩⟩ := id hTa
  have hl := lv_entry ([.ref (xo_a g)]) (n := 1) (Nat.le_of_ble_eq_true rfl)
  rw [lg_entry_eq]
  generalize (lg_sl ([.ref (xo_a g)]) ++ List.replicate (1 - (lg_sl ([.ref (xo_a g)])).length) Slot.unset).toArray = ls at hl ⊢
  have hl : lv_has ls 1 [(0, .ref (xo_a g))] := hl
  refine lv_aload_n hx hb dA_requireThreeOnBoard_0 rfl (lv_at hl 0 rfl) ?_
  refine pu_V (cA_boardSize l g T dk dn ) rfl kA_A_boardSize hS bl_xo hB rfl (xo_rc hB) ⟨Nat.le_of_ble_eq_true rfl, Nat.le_of_ble_eq_true rfl⟩ hl.1 rfl (Nat.le_of_ble_eq_true rfl) ⟨Nat.zero_le _, Nat.zero_le _⟩ dA_requireThreeOnBoard_1 ?_
  refine lv_iconst (v := 3) hx hb dA_requireThreeOnBoard_4 (by decide) ?_
  refine lv_icmp_ge (tgt := 18) hx hb dA_requireThreeOnBoard_5 (by decide) (fun hc1 => ?_) (fun hc1 => ?_)
  · exact px_vret hx hb hr hlk dA_requireThreeOnBoard_18 (by exact if_neg (Int32.not_lt.mpr hc1))
  · exact px_throw (cls := ex_IS) (text := "the board has less than three cards") hx hb hst hown hts hEx (by decide +kernel) (gw_mem 341 rfl rfl) (gw_mem 35 rfl rfl) (by decide) at_IS an_IS ag_IS (by rw [hml]; exact hl.1) dA_requireThreeOnBoard_8 dA_requireThreeOnBoard_11 dA_requireThreeOnBoard_12 dA_requireThreeOnBoard_14 dA_requireThreeOnBoard_17 hout (Nat.le_of_ble_eq_true rfl) (Nat.le_of_ble_eq_true rfl) (Nat.le_of_ble_eq_true rfl) (Nat.le_of_ble_eq_true rfl) hlk (by exact if_pos (Int32.not_le.mp hc1))
