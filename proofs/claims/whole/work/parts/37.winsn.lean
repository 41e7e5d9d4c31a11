/-! the class's wins where the board has less than three cards -/
set_option maxHeartbeats 4000000 in
set_option maxRecDepth 100000 in
theorem cA_wins_n (l : Launch) (g : xo_E) (T : Nat → Int64) (dk : Nat → Int32) (dn : Int32) (k : Int32) (w : Int32) (hst : l.stackTraces = false) (hb3 : g_bs T < 3) : px_M l yA_wins bA_wins 3 (some .int) 9 [.ref (xo_a g), .int k, .int w] (xo_F g T dk dn) (if q_seat k then .inl ex_IO else if w = 0 then .inl ex_IS else if w = 1 then .inl ex_IS else .inl ex_IA) := by
  refine vx_ofW (cc := bA_wins) (maxL := 3) (ret := (some .int)) (by decide) rfl ?_
  intro p e s m args below meth c s₁ BB hml hout hv
  obtain ⟨rfl, hB⟩ := hv
  have hx := BB.exec
  have hb := BB.bytes
  have hr := BB.returns
  have hlk := BB.notSynchronized
  have hts := atoms_spec (ws := wd yA_wins bA_wins 3 (some .int)) BB.pre
  have hown : s.vm.findClass "HandTables" = some m.cls := findClass_of_methodNamed BB.named
  have hS : CallFix p m c bA_wins 3 s _ (wd yA_wins bA_wins 3 (some .int)) "HandTables" := ⟨hx, hb, hml, hown, hts⟩
  obtain ⟨hTa, hEx, hP, hK⟩ := id hB
  obtain ⟨⟨t1, hT1⟩, ⟨t2, hT2⟩, ⟨t3, hT3⟩, ⟨t4, hT4⟩⟩ := id hTa
  have hl := lv_entry ([.ref (xo_a g), .int k, .int w]) (n := 3) (Nat.le_of_ble_eq_true rfl)
  rw [lg_entry_eq]
  generalize (lg_sl ([.ref (xo_a g), .int k, .int w]) ++ List.replicate (3 - (lg_sl ([.ref (xo_a g), .int k, .int w])).length) Slot.unset).toArray = ls at hl ⊢
  have hl : lv_has ls 3 [(0, .ref (xo_a g)), (1, .int k), (2, .int w)] := hl
  refine lv_iload_n hx hb dA_wins_0 rfl (lv_at hl 1 rfl) ?_
  refine px_S (cA_requireSeat l _ hst) rfl kA_A_requireSeat hS bl_ex hEx ⟨Nat.le_of_ble_eq_true rfl, Nat.le_of_ble_eq_true rfl⟩ hl.1 rfl (Nat.le_of_ble_eq_true rfl) ⟨Nat.le_of_ble_eq_true rfl, Nat.le_of_ble_eq_true rfl⟩ dA_wins_1 hout hlk (fun E h9 => ?_) (fun v hv => ?_)
  · obtain ⟨hc1, rfl⟩ := ri_then h9
    (try simp only [if_pos hc1]) <;> rfl
  obtain ⟨hc1, rfl⟩ := ri_else hv
  refine lv_iload_n hx hb dA_wins_4 rfl (lv_at hl 2 rfl) ?_
  refine lv_if_eq (tgt := 23) hx hb dA_wins_5 (by decide) (fun hc2 => ?_) (fun hc2 => ?_)
  · refine lv_aload_n hx hb dA_wins_23 rfl (lv_at hl 0 rfl) ?_
    refine lv_iload_n hx hb dA_wins_24 rfl (lv_at hl 1 rfl) ?_
    refine px_V (cA_requireTaken l g T dk dn _ hst (se_in (by assumption))) rfl kA_A_requireTaken hS bl_xo hB (xo_rc hB) ⟨Nat.le_of_ble_eq_true rfl, Nat.le_of_ble_eq_true rfl⟩ hl.1 rfl (Nat.le_of_ble_eq_true rfl) ⟨Nat.le_of_ble_eq_true rfl, Nat.le_of_ble_eq_true rfl⟩ dA_wins_25 hout hlk (fun E h9 => ?_) (fun v hv => ?_)
    · obtain ⟨hc3, rfl⟩ := ri_then h9
      (try simp only [if_neg hc1, if_pos hc2, if_pos hc3]) <;> rfl
    obtain ⟨hc3, rfl⟩ := ri_else hv
    refine lv_aload_n hx hb dA_wins_28 rfl (lv_at hl 0 rfl) ?_
    refine px_V (cA_requireThreeOnBoard l g T dk dn  hst) rfl kA_A_requireThreeOnBoard hS bl_xo hB (xo_rc hB) ⟨Nat.le_of_ble_eq_true rfl, Nat.le_of_ble_eq_true rfl⟩ hl.1 rfl (Nat.le_of_ble_eq_true rfl) ⟨Nat.le_of_ble_eq_true rfl, Nat.le_of_ble_eq_true rfl⟩ dA_wins_29 hout hlk (fun E h9 => ?_) (fun v hv => ?_)
    · obtain ⟨hc4, rfl⟩ := ri_then h9
      (try simp only [if_neg hc1, if_pos hc2, if_neg hc3, if_pos hc4]) <;> rfl
    obtain ⟨hc4, rfl⟩ := ri_else hv
    exact absurd hb3 hc4
  · refine lv_iload_n hx hb dA_wins_8 rfl (lv_at hl 2 rfl) ?_
    refine lv_iconst (v := 1) hx hb dA_wins_9 (by decide) ?_
    refine lv_icmp_eq (tgt := 23) hx hb dA_wins_10 (by decide) (fun hc5 => ?_) (fun hc5 => ?_)
    · refine lv_aload_n hx hb dA_wins_23 rfl (lv_at hl 0 rfl) ?_
      refine lv_iload_n hx hb dA_wins_24 rfl (lv_at hl 1 rfl) ?_
      refine px_V (cA_requireTaken l g T dk dn _ hst (se_in (by assumption))) rfl kA_A_requireTaken hS bl_xo hB (xo_rc hB) ⟨Nat.le_of_ble_eq_true rfl, Nat.le_of_ble_eq_true rfl⟩ hl.1 rfl (Nat.le_of_ble_eq_true rfl) ⟨Nat.le_of_ble_eq_true rfl, Nat.le_of_ble_eq_true rfl⟩ dA_wins_25 hout hlk (fun E h9 => ?_) (fun v hv => ?_)
      · obtain ⟨hc6, rfl⟩ := ri_then h9
        (try simp only [if_neg hc1, if_neg hc2, if_pos hc5, if_pos hc6]) <;> rfl
      obtain ⟨hc6, rfl⟩ := ri_else hv
      refine lv_aload_n hx hb dA_wins_28 rfl (lv_at hl 0 rfl) ?_
      refine px_V (cA_requireThreeOnBoard l g T dk dn  hst) rfl kA_A_requireThreeOnBoard hS bl_xo hB (xo_rc hB) ⟨Nat.le_of_ble_eq_true rfl, Nat.le_of_ble_eq_true rfl⟩ hl.1 rfl (Nat.le_of_ble_eq_true rfl) ⟨Nat.le_of_ble_eq_true rfl, Nat.le_of_ble_eq_true rfl⟩ dA_wins_29 hout hlk (fun E h9 => ?_) (fun v hv => ?_)
      · obtain ⟨hc7, rfl⟩ := ri_then h9
        (try simp only [if_neg hc1, if_neg hc2, if_pos hc5, if_neg hc6, if_pos hc7]) <;> rfl
      obtain ⟨hc7, rfl⟩ := ri_else hv
      exact absurd hb3 hc7
    · exact px_throw (cls := ex_IA) (text := "neither wins nor shares") hx hb hst hown hts hEx (by decide +kernel) (gw_mem 97 rfl rfl) (gw_mem 33 rfl rfl) (by decide) at_IA an_IA ag_IA (by rw [hml]; exact hl.1) dA_wins_13 dA_wins_16 dA_wins_17 dA_wins_19 dA_wins_22 hout (Nat.le_of_ble_eq_true rfl) (Nat.le_of_ble_eq_true rfl) (Nat.le_of_ble_eq_true rfl) (Nat.le_of_ble_eq_true rfl) hlk (by (try simp only [if_neg hc1, if_neg hc2, if_neg hc5]) <;> rfl)
