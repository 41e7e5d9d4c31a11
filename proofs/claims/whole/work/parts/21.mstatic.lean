/-! the model's static methods -/
def m_noCard (k : Int32) : Int32 := if k < 0 then 1 else if k ≤ 51 then 0 else 1
def m_noSeat (k : Int32) : Int32 := if k < 0 then 1 else if k ≤ 5 then 0 else 1
def m_rowSize (k : Int32) : Int32 := if k = 8 then 1 else if k = 4 then 1 else if k = 7 then 2 else if k = 6 then 2 else if k = 3 then 3 else if k = 2 then 3 else if k = 1 then 4 else 5
set_option maxRecDepth 20000 in
theorem kM_M_isHand : cs_W "HandTablesModel" 80 yM_isHand bM_isHand 4 (some .boolean) 1 := ⟨(gw_mem 526 rfl rfl), (gw_mem 527 rfl rfl), (gw_mem 28 rfl rfl), (gw_mem 528 rfl rfl), by decide +kernel⟩
set_option maxRecDepth 20000 in
theorem kM_M_rowSize : cs_W "HandTablesModel" 94 yM_rowSize bM_rowSize 1 (some .int) 1 := ⟨(gw_mem 557 rfl rfl), (gw_mem 558 rfl rfl), (gw_mem 28 rfl rfl), (gw_mem 559 rfl rfl), by decide +kernel⟩
set_option maxRecDepth 20000 in
theorem kM_M_noSeat : cs_W "HandTablesModel" 100 yM_noSeat bM_noSeat 1 (some .boolean) 1 := ⟨(gw_mem 572 rfl rfl), (gw_mem 573 rfl rfl), (gw_mem 28 rfl rfl), (gw_mem 574 rfl rfl), by decide +kernel⟩
set_option maxRecDepth 20000 in
theorem kM_M_noCard : cs_W "HandTablesModel" 104 yM_noCard bM_noCard 1 (some .boolean) 1 := ⟨(gw_mem 575 rfl rfl), (gw_mem 576 rfl rfl), (gw_mem 28 rfl rfl), (gw_mem 577 rfl rfl), by decide +kernel⟩
set_option maxHeartbeats 4000000 in
set_option maxRecDepth 100000 in
theorem cM_noCard (l : Launch) (k : Int32)  : pu_M l yM_noCard bM_noCard 1 (some .boolean) 0 [.int k] (fun _ => True) (.int (m_noCard k)) := by
  refine Met.ofW (cc := bM_noCard) (maxL := 1) (ret := (some .boolean)) (by decide) rfl ?_
  intro p e s m args below meth c s₁ BB hml hv
  obtain ⟨rfl, hB⟩ := hv
  have hx := BB.exec
  have hb := BB.bytes
  have hr := BB.returns
  have hlk := BB.notSynchronized
  have hts := atoms_spec (ws := wd yM_noCard bM_noCard 1 (some .boolean)) BB.pre
  have hown : s.vm.findClass "HandTablesModel" = some m.cls := findClass_of_methodNamed BB.named
  have hS : CallFix p m c bM_noCard 1 s _ (wd yM_noCard bM_noCard 1 (some .boolean)) "HandTablesModel" := ⟨hx, hb, hml, hown, hts⟩
  have hl := lv_entry ([.int k]) (n := 1) (Nat.le_of_ble_eq_true rfl)
  rw [lg_entry_eq]
  generalize (lg_sl ([.int k]) ++ List.replicate (1 - (lg_sl ([.int k])).length) Slot.unset).toArray = ls at hl ⊢
  have hl : lv_has ls 1 [(0, .int k)] := hl
  refine lv_iload_n hx hb dM_noCard_0 rfl (lv_at hl 0 rfl) ?_
  refine lv_if_lt (tgt := 10) hx hb dM_noCard_1 (by decide) (fun hc1 => ?_) (fun hc1 => ?_)
  · refine lv_iconst (v := 1) hx hb dM_noCard_10 (by decide) ?_
    refine lv_goto (tgt := 15) hx hb dM_noCard_11 (by decide) ?_
    exact pu_zret hx hb hr hlk dM_noCard_15 (by decide) (by first | contradiction | ((try simp only [m_noCard, if_pos hc1]) <;> rfl))
  · refine lv_iload_n hx hb dM_noCard_4 rfl (lv_at hl 0 rfl) ?_
    refine lv_bipush (v := 51) hx hb dM_noCard_5 (by decide) ?_
    refine lv_icmp_le (tgt := 14) hx hb dM_noCard_7 (by decide) (fun hc2 => ?_) (fun hc2 => ?_)
    · refine lv_iconst (v := 0) hx hb dM_noCard_14 (by decide) ?_
      exact pu_zret hx hb hr hlk dM_noCard_15 (by decide) (by first | contradiction | ((try simp only [m_noCard, if_neg hc1, if_pos hc2]) <;> rfl))
    · refine lv_iconst (v := 1) hx hb dM_noCard_10 (by decide) ?_
      refine lv_goto (tgt := 15) hx hb dM_noCard_11 (by decide) ?_
      exact pu_zret hx hb hr hlk dM_noCard_15 (by decide) (by first | contradiction | ((try simp only [m_noCard, if_neg hc1, if_neg hc2]) <;> rfl))
set_option maxHeartbeats 4000000 in
set_option maxRecDepth 100000 in
theorem cM_noSeat (l : Launch) (k : Int32)  : pu_M l yM_noSeat bM_noSeat 1 (some .boolean) 0 [.int k] (fun _ => True) (.int (m_noSeat k)) := by
  refine Met.ofW (cc := bM_noSeat) (maxL := 1) (ret := (some .boolean)) (by decide) rfl ?_
  intro p e s m args below meth c s₁ BB hml hv
  obtain ⟨rfl, hB⟩ := hv
  have hx := BB.exec
  have hb := BB.bytes
  have hr := BB.returns
  have hlk := BB.notSynchronized
  have hts := atoms_spec (ws := wd yM_noSeat bM_noSeat 1 (some .boolean)) BB.pre
  have hown : s.vm.findClass "HandTablesModel" = some m.cls := findClass_of_methodNamed BB.named
  have hS : CallFix p m c bM_noSeat 1 s _ (wd yM_noSeat bM_noSeat 1 (some .boolean)) "HandTablesModel" := ⟨hx, hb, hml, hown, hts⟩
  have hl := lv_entry ([.int k]) (n := 1) (Nat.le_of_ble_eq_true rfl)
  rw [lg_entry_eq]
  generalize (lg_sl ([.int k]) ++ List.replicate (1 - (lg_sl ([.int k])).length) Slot.unset).toArray = ls at hl ⊢
  have hl : lv_has ls 1 [(0, .int k)] := hl
  refine lv_iload_n hx hb dM_noSeat_0 rfl (lv_at hl 0 rfl) ?_
  refine lv_if_lt (tgt := 9) hx hb dM_noSeat_1 (by decide) (fun hc1 => ?_) (fun hc1 => ?_)
  · refine lv_iconst (v := 1) hx hb dM_noSeat_9 (by decide) ?_
    refine lv_goto (tgt := 14) hx hb dM_noSeat_10 (by decide) ?_
    exact pu_zret hx hb hr hlk dM_noSeat_14 (by decide) (by first | contradiction | ((try simp only [m_noSeat, if_pos hc1]) <;> rfl))
  · refine lv_iload_n hx hb dM_noSeat_4 rfl (lv_at hl 0 rfl) ?_
    refine lv_iconst (v := 5) hx hb dM_noSeat_5 (by decide) ?_
    refine lv_icmp_le (tgt := 13) hx hb dM_noSeat_6 (by decide) (fun hc2 => ?_) (fun hc2 => ?_)
    · refine lv_iconst (v := 0) hx hb dM_noSeat_13 (by decide) ?_
      exact pu_zret hx hb hr hlk dM_noSeat_14 (by decide) (by first | contradiction | ((try simp only [m_noSeat, if_neg hc1, if_pos hc2]) <;> rfl))
    · refine lv_iconst (v := 1) hx hb dM_noSeat_9 (by decide) ?_
      refine lv_goto (tgt := 14) hx hb dM_noSeat_10 (by decide) ?_
      exact pu_zret hx hb hr hlk dM_noSeat_14 (by decide) (by first | contradiction | ((try simp only [m_noSeat, if_neg hc1, if_neg hc2]) <;> rfl))
set_option maxHeartbeats 4000000 in
set_option maxRecDepth 100000 in
theorem cM_rowSize (l : Launch) (k : Int32)  : pu_M l yM_rowSize bM_rowSize 1 (some .int) 0 [.int k] (fun _ => True) (.int (m_rowSize k)) := by
  refine Met.ofW (cc := bM_rowSize) (maxL := 1) (ret := (some .int)) (by decide) rfl ?_
  intro p e s m args below meth c s₁ BB hml hv
  obtain ⟨rfl, hB⟩ := hv
  have hx := BB.exec
  have hb := BB.bytes
  have hr := BB.returns
  have hlk := BB.notSynchronized
  have hts := atoms_spec (ws := wd yM_rowSize bM_rowSize 1 (some .int)) BB.pre
  have hown : s.vm.findClass "HandTablesModel" = some m.cls := findClass_of_methodNamed BB.named
  have hS : CallFix p m c bM_rowSize 1 s _ (wd yM_rowSize bM_rowSize 1 (some .int)) "HandTablesModel" := ⟨hx, hb, hml, hown, hts⟩
  have hl := lv_entry ([.int k]) (n := 1) (Nat.le_of_ble_eq_true rfl)
  rw [lg_entry_eq]
  generalize (lg_sl ([.int k]) ++ List.replicate (1 - (lg_sl ([.int k])).length) Slot.unset).toArray = ls at hl ⊢
  have hl : lv_has ls 1 [(0, .int k)] := hl
  refine lv_iload_n hx hb dM_rowSize_0 rfl (lv_at hl 0 rfl) ?_
  refine lv_bipush (v := 8) hx hb dM_rowSize_1 (by decide) ?_
  refine lv_icmp_eq (tgt := 11) hx hb dM_rowSize_3 (by decide) (fun hc1 => ?_) (fun hc1 => ?_)
  · refine lv_iconst (v := 1) hx hb dM_rowSize_11 (by decide) ?_
    refine lv_goto (tgt := 55) hx hb dM_rowSize_12 (by decide) ?_
    exact pu_iret hx hb hr hlk dM_rowSize_55 (by first | contradiction | ((try simp only [m_rowSize, if_pos hc1]) <;> rfl))
  · refine lv_iload_n hx hb dM_rowSize_6 rfl (lv_at hl 0 rfl) ?_
    refine lv_iconst (v := 4) hx hb dM_rowSize_7 (by decide) ?_
    refine lv_icmp_ne (tgt := 15) hx hb dM_rowSize_8 (by decide) (fun hc2 => ?_) (fun hc2 => ?_)
    · refine lv_iload_n hx hb dM_rowSize_15 rfl (lv_at hl 0 rfl) ?_
      refine lv_bipush (v := 7) hx hb dM_rowSize_16 (by decide) ?_
      refine lv_icmp_eq (tgt := 27) hx hb dM_rowSize_18 (by decide) (fun hc3 => ?_) (fun hc3 => ?_)
      · refine lv_iconst (v := 2) hx hb dM_rowSize_27 (by decide) ?_
        refine lv_goto (tgt := 55) hx hb dM_rowSize_28 (by decide) ?_
        exact pu_iret hx hb hr hlk dM_rowSize_55 (by first | contradiction | ((try simp only [m_rowSize, if_neg hc1, if_neg hc2, if_pos hc3]) <;> rfl))
      · refine lv_iload_n hx hb dM_rowSize_21 rfl (lv_at hl 0 rfl) ?_
        refine lv_bipush (v := 6) hx hb dM_rowSize_22 (by decide) ?_
        refine lv_icmp_ne (tgt := 31) hx hb dM_rowSize_24 (by decide) (fun hc4 => ?_) (fun hc4 => ?_)
        · refine lv_iload_n hx hb dM_rowSize_31 rfl (lv_at hl 0 rfl) ?_
          refine lv_iconst (v := 3) hx hb dM_rowSize_32 (by decide) ?_
          refine lv_icmp_eq (tgt := 41) hx hb dM_rowSize_33 (by decide) (fun hc5 => ?_) (fun hc5 => ?_)
          · refine lv_iconst (v := 3) hx hb dM_rowSize_41 (by decide) ?_
            refine lv_goto (tgt := 55) hx hb dM_rowSize_42 (by decide) ?_
            exact pu_iret hx hb hr hlk dM_rowSize_55 (by first | contradiction | ((try simp only [m_rowSize, if_neg hc1, if_neg hc2, if_neg hc3, if_neg hc4, if_pos hc5]) <;> rfl))
          · refine lv_iload_n hx hb dM_rowSize_36 rfl (lv_at hl 0 rfl) ?_
            refine lv_iconst (v := 2) hx hb dM_rowSize_37 (by decide) ?_
            refine lv_icmp_ne (tgt := 45) hx hb dM_rowSize_38 (by decide) (fun hc6 => ?_) (fun hc6 => ?_)
            · refine lv_iload_n hx hb dM_rowSize_45 rfl (lv_at hl 0 rfl) ?_
              refine lv_iconst (v := 1) hx hb dM_rowSize_46 (by decide) ?_
              refine lv_icmp_ne (tgt := 54) hx hb dM_rowSize_47 (by decide) (fun hc7 => ?_) (fun hc7 => ?_)
              · refine lv_iconst (v := 5) hx hb dM_rowSize_54 (by decide) ?_
                exact pu_iret hx hb hr hlk dM_rowSize_55 (by first | contradiction | ((try simp only [m_rowSize, if_neg hc1, if_neg hc2, if_neg hc3, if_neg hc4, if_neg hc5, if_neg hc6, if_neg hc7]) <;> rfl))
              · refine lv_iconst (v := 4) hx hb dM_rowSize_50 (by decide) ?_
                refine lv_goto (tgt := 55) hx hb dM_rowSize_51 (by decide) ?_
                exact pu_iret hx hb hr hlk dM_rowSize_55 (by first | contradiction | ((try simp only [m_rowSize, if_neg hc1, if_neg hc2, if_neg hc3, if_neg hc4, if_neg hc5, if_neg hc6, if_pos hc7]) <;> rfl))
            · refine lv_iconst (v := 3) hx hb dM_rowSize_41 (by decide) ?_
              refine lv_goto (tgt := 55) hx hb dM_rowSize_42 (by decide) ?_
              exact pu_iret hx hb hr hlk dM_rowSize_55 (by first | contradiction | ((try simp only [m_rowSize, if_neg hc1, if_neg hc2, if_neg hc3, if_neg hc4, if_neg hc5, if_pos hc6]) <;> rfl))
        · refine lv_iconst (v := 2) hx hb dM_rowSize_27 (by decide) ?_
          refine lv_goto (tgt := 55) hx hb dM_rowSize_28 (by decide) ?_
          exact pu_iret hx hb hr hlk dM_rowSize_55 (by first | contradiction | ((try simp only [m_rowSize, if_neg hc1, if_neg hc2, if_neg hc3, if_pos hc4]) <;> rfl))
    · refine lv_iconst (v := 1) hx hb dM_rowSize_11 (by decide) ?_
      refine lv_goto (tgt := 55) hx hb dM_rowSize_12 (by decide) ?_
      exact pu_iret hx hb hr hlk dM_rowSize_55 (by first | contradiction | ((try simp only [m_rowSize, if_neg hc1, if_pos hc2]) <;> rfl))
