/-! the class's leaves: bits, shifts, straights, places -/
set_option maxRecDepth 20000 in
theorem kA_A_requireHand : cs_W "HandTables" 20 yA_requireHand bA_requireHand 3 none 1 := ⟨(gw_mem 93 rfl rfl), (gw_mem 94 rfl rfl), (gw_mem 27 rfl rfl), (gw_mem 95 rfl rfl), by decide +kernel⟩
set_option maxRecDepth 20000 in
theorem kA_A_valueOf : cs_W "HandTables" 24 yA_valueOf bA_valueOf 25 (some .int) 1 := ⟨(gw_mem 165 rfl rfl), (gw_mem 166 rfl rfl), (gw_mem 27 rfl rfl), (gw_mem 167 rfl rfl), by decide +kernel⟩
set_option maxRecDepth 20000 in
theorem kA_A_categoryOf : cs_W "HandTables" 28 yA_categoryOf bA_categoryOf 2 (some .int) 1 := ⟨(gw_mem 207 rfl rfl), (gw_mem 208 rfl rfl), (gw_mem 27 rfl rfl), (gw_mem 209 rfl rfl), by decide +kernel⟩
set_option maxRecDepth 20000 in
theorem kA_A_isFiveWorth : cs_W "HandTables" 32 yA_isFiveWorth bA_isFiveWorth 3 (some .boolean) 2 := ⟨(gw_mem 217 rfl rfl), (gw_mem 218 rfl rfl), (gw_mem 27 rfl rfl), (gw_mem 219 rfl rfl), by decide +kernel⟩
set_option maxRecDepth 20000 in
theorem kA_A_requireValue : cs_W "HandTables" 36 yA_requireValue bA_requireValue 1 none 1 := ⟨(gw_mem 227 rfl rfl), (gw_mem 228 rfl rfl), (gw_mem 27 rfl rfl), (gw_mem 229 rfl rfl), by decide +kernel⟩
set_option maxRecDepth 20000 in
theorem kA_A_rowAt : cs_W "HandTables" 43 yA_rowAt bA_rowAt 2 (some .int) 2 := ⟨(gw_mem 231 rfl rfl), (gw_mem 232 rfl rfl), (gw_mem 27 rfl rfl), (gw_mem 233 rfl rfl), by decide +kernel⟩
set_option maxRecDepth 20000 in
theorem kA_A_requireSeat : cs_W "HandTables" 57 yA_requireSeat bA_requireSeat 1 none 1 := ⟨(gw_mem 277 rfl rfl), (gw_mem 278 rfl rfl), (gw_mem 27 rfl rfl), (gw_mem 279 rfl rfl), by decide +kernel⟩
set_option maxRecDepth 20000 in
theorem kA_A_requireCard : cs_W "HandTables" 60 yA_requireCard bA_requireCard 1 none 1 := ⟨(gw_mem 296 rfl rfl), (gw_mem 297 rfl rfl), (gw_mem 27 rfl rfl), (gw_mem 298 rfl rfl), by decide +kernel⟩
set_option maxRecDepth 20000 in
theorem kA_A_leadersOn : cs_W "HandTables" 82 yA_leadersOn bA_leadersOn 7 (some .int) 2 := ⟨(gw_mem 369 rfl rfl), (gw_mem 370 rfl rfl), (gw_mem 27 rfl rfl), (gw_mem 371 rfl rfl), by decide +kernel⟩
set_option maxRecDepth 20000 in
theorem kA_J_bitCount : cs_W "HandTables" 94 yJ_bitCount bJ_bitCount 2 (some .int) 1 := ⟨(gw_mem 69 rfl rfl), (gw_mem 70 rfl rfl), (gw_mem 29 rfl rfl), (gw_mem 71 rfl rfl), by decide +kernel⟩
set_option maxRecDepth 20000 in
theorem kA_A_countBoards : cs_W "HandTables" 101 yA_countBoards bA_countBoards 14 (some .int) 6 := ⟨(gw_mem 393 rfl rfl), (gw_mem 394 rfl rfl), (gw_mem 27 rfl rfl), (gw_mem 395 rfl rfl), by decide +kernel⟩
set_option maxRecDepth 20000 in
theorem kA_I_bitCount : cs_W "HandTables" 111 yI_bitCount bI_bitCount 1 (some .int) 1 := ⟨(gw_mem 416 rfl rfl), (gw_mem 417 rfl rfl), (gw_mem 36 rfl rfl), (gw_mem 418 rfl rfl), by decide +kernel⟩
set_option maxRecDepth 20000 in
theorem kA_A_isOutcome : cs_W "HandTables" 140 yA_isOutcome bA_isOutcome 5 (some .boolean) 3 := ⟨(gw_mem 396 rfl rfl), (gw_mem 397 rfl rfl), (gw_mem 27 rfl rfl), (gw_mem 398 rfl rfl), by decide +kernel⟩
set_option maxRecDepth 20000 in
theorem kA_A_suitedRanks : cs_W "HandTables" 144 yA_suitedRanks bA_suitedRanks 5 (some .long) 1 := ⟨(gw_mem 168 rfl rfl), (gw_mem 169 rfl rfl), (gw_mem 27 rfl rfl), (gw_mem 170 rfl rfl), by decide +kernel⟩
set_option maxRecDepth 20000 in
theorem kA_A_straights : cs_W "HandTables" 148 yA_straights bA_straights 4 (some .long) 1 := ⟨(gw_mem 172 rfl rfl), (gw_mem 173 rfl rfl), (gw_mem 27 rfl rfl), (gw_mem 174 rfl rfl), by decide +kernel⟩
set_option maxRecDepth 20000 in
theorem kA_A_highest : cs_W "HandTables" 151 yA_highest bA_highest 4 (some .int) 1 := ⟨(gw_mem 177 rfl rfl), (gw_mem 178 rfl rfl), (gw_mem 27 rfl rfl), (gw_mem 179 rfl rfl), by decide +kernel⟩
set_option maxRecDepth 20000 in
theorem kA_A_without : cs_W "HandTables" 156 yA_without bA_without 5 (some .long) 2 := ⟨(gw_mem 180 rfl rfl), (gw_mem 181 rfl rfl), (gw_mem 27 rfl rfl), (gw_mem 182 rfl rfl), by decide +kernel⟩
set_option maxRecDepth 20000 in
theorem kA_A_placeOf : cs_W "HandTables" 160 yA_placeOf bA_placeOf 8 (some .int) 2 := ⟨(gw_mem 184 rfl rfl), (gw_mem 185 rfl rfl), (gw_mem 27 rfl rfl), (gw_mem 186 rfl rfl), by decide +kernel⟩
set_option maxRecDepth 20000 in
theorem kA_A_placeBesideStraights : cs_W "HandTables" 164 yA_placeBesideStraights bA_placeBesideStraights 8 (some .int) 1 := ⟨(gw_mem 192 rfl rfl), (gw_mem 193 rfl rfl), (gw_mem 27 rfl rfl), (gw_mem 194 rfl rfl), by decide +kernel⟩
set_option maxRecDepth 20000 in
theorem kA_A_pairsValue : cs_W "HandTables" 167 yA_pairsValue bA_pairsValue 10 (some .int) 2 := ⟨(gw_mem 197 rfl rfl), (gw_mem 198 rfl rfl), (gw_mem 27 rfl rfl), (gw_mem 199 rfl rfl), by decide +kernel⟩
set_option maxRecDepth 20000 in
theorem kA_A_choose : cs_W "HandTables" 171 yA_choose bA_choose 2 (some .int) 2 := ⟨(gw_mem 187 rfl rfl), (gw_mem 188 rfl rfl), (gw_mem 27 rfl rfl), (gw_mem 189 rfl rfl), by decide +kernel⟩
set_option maxRecDepth 20000 in
theorem kA_A_ranksAt : cs_W "HandTables" 180 yA_ranksAt bA_ranksAt 8 (some .long) 2 := ⟨(gw_mem 237 rfl rfl), (gw_mem 238 rfl rfl), (gw_mem 27 rfl rfl), (gw_mem 239 rfl rfl), by decide +kernel⟩
set_option maxRecDepth 20000 in
theorem kA_A_written : cs_W "HandTables" 184 yA_written bA_written 6 (some .int) 2 := ⟨(gw_mem 234 rfl rfl), (gw_mem 235 rfl rfl), (gw_mem 27 rfl rfl), (gw_mem 236 rfl rfl), by decide +kernel⟩
set_option maxRecDepth 20000 in
theorem kA_A_rowBehind : cs_W "HandTables" 187 yA_rowBehind bA_rowBehind 3 (some .int) 2 := ⟨(gw_mem 240 rfl rfl), (gw_mem 241 rfl rfl), (gw_mem 27 rfl rfl), (gw_mem 242 rfl rfl), by decide +kernel⟩
set_option maxRecDepth 20000 in
theorem kA_A_rowOfPairs : cs_W "HandTables" 191 yA_rowOfPairs bA_rowOfPairs 7 (some .int) 1 := ⟨(gw_mem 246 rfl rfl), (gw_mem 247 rfl rfl), (gw_mem 27 rfl rfl), (gw_mem 248 rfl rfl), by decide +kernel⟩
set_option maxRecDepth 20000 in
theorem kA_A_ranksBesideStraights : cs_W "HandTables" 194 yA_ranksBesideStraights bA_ranksBesideStraights 6 (some .long) 1 := ⟨(gw_mem 249 rfl rfl), (gw_mem 250 rfl rfl), (gw_mem 27 rfl rfl), (gw_mem 251 rfl rfl), by decide +kernel⟩
set_option maxRecDepth 20000 in
theorem kA_A_beside : cs_W "HandTables" 198 yA_beside bA_beside 5 (some .long) 2 := ⟨(gw_mem 243 rfl rfl), (gw_mem 244 rfl rfl), (gw_mem 27 rfl rfl), (gw_mem 245 rfl rfl), by decide +kernel⟩
def f_bc (x : Int64) : Int32 :=
  let a := x - (ju x 1 &&& 6148914691236517205)
  let b := (a &&& 3689348814741910323) + (ju a 2 &&& 3689348814741910323)
  let c := (b + ju b 4) &&& 1085102592571150095
  let d := c + ju c 8
  let e := d + ju d 16
  let g := e + ju e 32
  g.toInt32 &&& 127
def f_bi (x : Int32) : Int32 :=
  let a := x - (jui x 1 &&& 1431655765)
  let b := (a &&& 858993459) + (jui a 2 &&& 858993459)
  let c := (b + jui b 4) &&& 252645135
  let d := c + jui c 8
  let e := d + jui d 16
  e &&& 63
def f_straights (r : Int64) : Int64 :=
  let w := jl r 4 ||| ju r 48
  w &&& ju w 4 &&& ju w 8 &&& ju w 12 &&& ju w 16
def f_highest (r : Int64) : Int32 :=
  let a := r ||| ju r 4
  let b := a ||| ju a 8
  let c := b ||| ju b 16
  let d := c ||| ju c 32
  f_bc d - 1
def f_without (r : Int64) (k : Int32) : Int64 :=
  let b := jl 1 (4 * k) - 1
  (r &&& b) ||| (ju r 4 &&& (b ^^^ -1))
def f_beside (r : Int64) (k : Int32) : Int64 :=
  let b := jl 1 (4 * k) - 1
  (r &&& b) ||| jl (r &&& (b ^^^ -1)) 4
def f_choose (t k : Int32) : Int32 := l_CHOOSE.getD ((k - 1) * 13 + t).toNatClampNeg 0
set_option maxHeartbeats 4000000 in
set_option maxRecDepth 100000 in
theorem cJ_bitCount (l : Launch) (x : Int64)  : pu_M l yJ_bitCount bJ_bitCount 2 (some .int) 0 [.long x] (fun _ => True) (.int (f_bc x)) := by
  refine Met.ofW (cc := bJ_bitCount) (maxL := 2) (ret := (some .int)) (by decide) rfl ?_
  intro p e s m args below meth c s₁ BB hml hv
  obtain ⟨rfl, hB⟩ := hv
  have hx := BB.exec
  have hb := BB.bytes
  have hr := BB.returns
  have hlk := BB.notSynchronized
  have hts := atoms_spec (ws := wd yJ_bitCount bJ_bitCount 2 (some .int)) BB.pre
  have hown : s.vm.findClass "java/lang/Long" = some m.cls := findClass_of_methodNamed BB.named
  have hS : CallFix p m c bJ_bitCount 2 s _ (wd yJ_bitCount bJ_bitCount 2 (some .int)) "java/lang/Long" := ⟨hx, hb, hml, hown, hts⟩
  have hl := lv_entry ([.long x]) (n := 2) (Nat.le_of_ble_eq_true rfl)
  rw [lg_entry_eq]
  generalize (lg_sl ([.long x]) ++ List.replicate (2 - (lg_sl ([.long x])).length) Slot.unset).toArray = ls at hl ⊢
  have hl : lv_has ls 2 [(0, .long x)] := hl
  refine lv_lload_n hx hb dJ_bitCount_0 rfl (lv_at hl 0 rfl) ?_
  refine lv_lload_n hx hb dJ_bitCount_1 rfl (lv_at hl 0 rfl) ?_
  refine lv_iconst (v := 1) hx hb dJ_bitCount_2 (by decide) ?_
  refine jv_lushr hx hb dJ_bitCount_3 ?_
  refine lv_ldc2 (v := 6148914691236517205) hx hb hown (hts _ (wd_in (gw_mem 72 rfl rfl))) dJ_bitCount_4 ?_
  refine lv_land hx hb dJ_bitCount_7 ?_
  refine lv_lsub hx hb dJ_bitCount_8 ?_
  refine lv_topl (fun x1 ex1 => ?_)
  refine lv_lstore_n (lv' := [(0, .long x1)]) hx hb dJ_bitCount_9 rfl hl (by decide) rfl (fun ls hl => ?_)
  refine lv_lload_n hx hb dJ_bitCount_10 rfl (lv_at hl 0 rfl) ?_
  refine lv_ldc2 (v := 3689348814741910323) hx hb hown (hts _ (wd_in (gw_mem 73 rfl rfl))) dJ_bitCount_11 ?_
  refine lv_land hx hb dJ_bitCount_14 ?_
  refine lv_lload_n hx hb dJ_bitCount_15 rfl (lv_at hl 0 rfl) ?_
  refine lv_iconst (v := 2) hx hb dJ_bitCount_16 (by decide) ?_
  refine jv_lushr hx hb dJ_bitCount_17 ?_
  refine lv_ldc2 (v := 3689348814741910323) hx hb hown (hts _ (wd_in (gw_mem 73 rfl rfl))) dJ_bitCount_18 ?_
  refine lv_land hx hb dJ_bitCount_21 ?_
  refine lv_ladd hx hb dJ_bitCount_22 ?_
  refine lv_topl (fun x2 ex2 => ?_)
  refine lv_lstore_n (lv' := [(0, .long x2)]) hx hb dJ_bitCount_23 rfl hl (by decide) rfl (fun ls hl => ?_)
  refine lv_lload_n hx hb dJ_bitCount_24 rfl (lv_at hl 0 rfl) ?_
  refine lv_lload_n hx hb dJ_bitCount_25 rfl (lv_at hl 0 rfl) ?_
  refine lv_iconst (v := 4) hx hb dJ_bitCount_26 (by decide) ?_
  refine jv_lushr hx hb dJ_bitCount_27 ?_
  refine lv_ladd hx hb dJ_bitCount_28 ?_
  refine lv_ldc2 (v := 1085102592571150095) hx hb hown (hts _ (wd_in (gw_mem 74 rfl rfl))) dJ_bitCount_29 ?_
  refine lv_land hx hb dJ_bitCount_32 ?_
  refine lv_topl (fun x3 ex3 => ?_)
  refine lv_lstore_n (lv' := [(0, .long x3)]) hx hb dJ_bitCount_33 rfl hl (by decide) rfl (fun ls hl => ?_)
  refine lv_lload_n hx hb dJ_bitCount_34 rfl (lv_at hl 0 rfl) ?_
  refine lv_lload_n hx hb dJ_bitCount_35 rfl (lv_at hl 0 rfl) ?_
  refine lv_bipush (v := 8) hx hb dJ_bitCount_36 (by decide) ?_
  refine jv_lushr hx hb dJ_bitCount_38 ?_
  refine lv_ladd hx hb dJ_bitCount_39 ?_
  refine lv_topl (fun x4 ex4 => ?_)
  refine lv_lstore_n (lv' := [(0, .long x4)]) hx hb dJ_bitCount_40 rfl hl (by decide) rfl (fun ls hl => ?_)
  refine lv_lload_n hx hb dJ_bitCount_41 rfl (lv_at hl 0 rfl) ?_
  refine lv_lload_n hx hb dJ_bitCount_42 rfl (lv_at hl 0 rfl) ?_
  refine lv_bipush (v := 16) hx hb dJ_bitCount_43 (by decide) ?_
  refine jv_lushr hx hb dJ_bitCount_45 ?_
  refine lv_ladd hx hb dJ_bitCount_46 ?_
  refine lv_topl (fun x5 ex5 => ?_)
  refine lv_lstore_n (lv' := [(0, .long x5)]) hx hb dJ_bitCount_47 rfl hl (by decide) rfl (fun ls hl => ?_)
  refine lv_lload_n hx hb dJ_bitCount_48 rfl (lv_at hl 0 rfl) ?_
  refine lv_lload_n hx hb dJ_bitCount_49 rfl (lv_at hl 0 rfl) ?_
  refine lv_bipush (v := 32) hx hb dJ_bitCount_50 (by decide) ?_
  refine jv_lushr hx hb dJ_bitCount_52 ?_
  refine lv_ladd hx hb dJ_bitCount_53 ?_
  refine lv_topl (fun x6 ex6 => ?_)
  refine lv_lstore_n (lv' := [(0, .long x6)]) hx hb dJ_bitCount_54 rfl hl (by decide) rfl (fun ls hl => ?_)
  refine lv_lload_n hx hb dJ_bitCount_55 rfl (lv_at hl 0 rfl) ?_
  refine jv_l2i hx hb dJ_bitCount_56 ?_
  refine lv_bipush (v := 127) hx hb dJ_bitCount_57 (by decide) ?_
  refine lv_iand hx hb dJ_bitCount_59 ?_
  exact pu_iret hx hb hr hlk dJ_bitCount_60 (by subst ex6 ex5 ex4 ex3 ex2 ex1; rfl)
set_option maxHeartbeats 4000000 in
set_option maxRecDepth 100000 in
theorem cI_bitCount (l : Launch) (x : Int32)  : pu_M l yI_bitCount bI_bitCount 1 (some .int) 0 [.int x] (fun _ => True) (.int (f_bi x)) := by
  refine Met.ofW (cc := bI_bitCount) (maxL := 1) (ret := (some .int)) (by decide) rfl ?_
  intro p e s m args below meth c s₁ BB hml hv
  obtain ⟨rfl, hB⟩ := hv
  have hx := BB.exec
  have hb := BB.bytes
  have hr := BB.returns
  have hlk := BB.notSynchronized
  have hts := atoms_spec (ws := wd yI_bitCount bI_bitCount 1 (some .int)) BB.pre
  have hown : s.vm.findClass "java/lang/Integer" = some m.cls := findClass_of_methodNamed BB.named
  have hS : CallFix p m c bI_bitCount 1 s _ (wd yI_bitCount bI_bitCount 1 (some .int)) "java/lang/Integer" := ⟨hx, hb, hml, hown, hts⟩
  have hl := lv_entry ([.int x]) (n := 1) (Nat.le_of_ble_eq_true rfl)
  rw [lg_entry_eq]
  generalize (lg_sl ([.int x]) ++ List.replicate (1 - (lg_sl ([.int x])).length) Slot.unset).toArray = ls at hl ⊢
  have hl : lv_has ls 1 [(0, .int x)] := hl
  refine lv_iload_n hx hb dI_bitCount_0 rfl (lv_at hl 0 rfl) ?_
  refine lv_iload_n hx hb dI_bitCount_1 rfl (lv_at hl 0 rfl) ?_
  refine lv_iconst (v := 1) hx hb dI_bitCount_2 (by decide) ?_
  refine jv_iushr hx hb dI_bitCount_3 ?_
  refine lv_ldcw (v := 1431655765) hx hb hown (hts _ (wd_in (gw_mem 419 rfl rfl))) dI_bitCount_4 ?_
  refine lv_iand hx hb dI_bitCount_7 ?_
  refine lv_isub hx hb dI_bitCount_8 ?_
  refine lv_topi (fun x1 ex1 => ?_)
  refine lv_istore_n (lv' := [(0, .int x1)]) hx hb dI_bitCount_9 rfl hl (by decide) rfl (fun ls hl => ?_)
  refine lv_iload_n hx hb dI_bitCount_10 rfl (lv_at hl 0 rfl) ?_
  refine lv_ldcw (v := 858993459) hx hb hown (hts _ (wd_in (gw_mem 420 rfl rfl))) dI_bitCount_11 ?_
  refine lv_iand hx hb dI_bitCount_14 ?_
  refine lv_iload_n hx hb dI_bitCount_15 rfl (lv_at hl 0 rfl) ?_
  refine lv_iconst (v := 2) hx hb dI_bitCount_16 (by decide) ?_
  refine jv_iushr hx hb dI_bitCount_17 ?_
  refine lv_ldcw (v := 858993459) hx hb hown (hts _ (wd_in (gw_mem 420 rfl rfl))) dI_bitCount_18 ?_
  refine lv_iand hx hb dI_bitCount_21 ?_
  refine lv_iadd hx hb dI_bitCount_22 ?_
  refine lv_topi (fun x2 ex2 => ?_)
  refine lv_istore_n (lv' := [(0, .int x2)]) hx hb dI_bitCount_23 rfl hl (by decide) rfl (fun ls hl => ?_)
  refine lv_iload_n hx hb dI_bitCount_24 rfl (lv_at hl 0 rfl) ?_
  refine lv_iload_n hx hb dI_bitCount_25 rfl (lv_at hl 0 rfl) ?_
  refine lv_iconst (v := 4) hx hb dI_bitCount_26 (by decide) ?_
  refine jv_iushr hx hb dI_bitCount_27 ?_
  refine lv_iadd hx hb dI_bitCount_28 ?_
  refine lv_ldcw (v := 252645135) hx hb hown (hts _ (wd_in (gw_mem 421 rfl rfl))) dI_bitCount_29 ?_
  refine lv_iand hx hb dI_bitCount_32 ?_
  refine lv_topi (fun x3 ex3 => ?_)
  refine lv_istore_n (lv' := [(0, .int x3)]) hx hb dI_bitCount_33 rfl hl (by decide) rfl (fun ls hl => ?_)
  refine lv_iload_n hx hb dI_bitCount_34 rfl (lv_at hl 0 rfl) ?_
  refine lv_iload_n hx hb dI_bitCount_35 rfl (lv_at hl 0 rfl) ?_
  refine lv_bipush (v := 8) hx hb dI_bitCount_36 (by decide) ?_
  refine jv_iushr hx hb dI_bitCount_38 ?_
  refine lv_iadd hx hb dI_bitCount_39 ?_
  refine lv_topi (fun x4 ex4 => ?_)
  refine lv_istore_n (lv' := [(0, .int x4)]) hx hb dI_bitCount_40 rfl hl (by decide) rfl (fun ls hl => ?_)
  refine lv_iload_n hx hb dI_bitCount_41 rfl (lv_at hl 0 rfl) ?_
  refine lv_iload_n hx hb dI_bitCount_42 rfl (lv_at hl 0 rfl) ?_
  refine lv_bipush (v := 16) hx hb dI_bitCount_43 (by decide) ?_
  refine jv_iushr hx hb dI_bitCount_45 ?_
  refine lv_iadd hx hb dI_bitCount_46 ?_
  refine lv_topi (fun x5 ex5 => ?_)
  refine lv_istore_n (lv' := [(0, .int x5)]) hx hb dI_bitCount_47 rfl hl (by decide) rfl (fun ls hl => ?_)
  refine lv_iload_n hx hb dI_bitCount_48 rfl (lv_at hl 0 rfl) ?_
  refine lv_bipush (v := 63) hx hb dI_bitCount_49 (by decide) ?_
  refine lv_iand hx hb dI_bitCount_51 ?_
  exact pu_iret hx hb hr hlk dI_bitCount_52 (by subst ex5 ex4 ex3 ex2 ex1; rfl)
set_option maxHeartbeats 4000000 in
set_option maxRecDepth 100000 in
theorem cA_straights (l : Launch) (r : Int64)  : pu_M l yA_straights bA_straights 4 (some .long) 0 [.long r] (fun _ => True) (.long (f_straights r)) := by
  refine Met.ofW (cc := bA_straights) (maxL := 4) (ret := (some .long)) (by decide) rfl ?_
  intro p e s m args below meth c s₁ BB hml hv
  obtain ⟨rfl, hB⟩ := hv
  have hx := BB.exec
  have hb := BB.bytes
  have hr := BB.returns
  have hlk := BB.notSynchronized
  have hts := atoms_spec (ws := wd yA_straights bA_straights 4 (some .long)) BB.pre
  have hown : s.vm.findClass "HandTables" = some m.cls := findClass_of_methodNamed BB.named
  have hS : CallFix p m c bA_straights 4 s _ (wd yA_straights bA_straights 4 (some .long)) "HandTables" := ⟨hx, hb, hml, hown, hts⟩
  have hl := lv_entry ([.long r]) (n := 4) (Nat.le_of_ble_eq_true rfl)
  rw [lg_entry_eq]
  generalize (lg_sl ([.long r]) ++ List.replicate (4 - (lg_sl ([.long r])).length) Slot.unset).toArray = ls at hl ⊢
  have hl : lv_has ls 4 [(0, .long r)] := hl
  refine lv_lload_n hx hb dA_straights_0 rfl (lv_at hl 0 rfl) ?_
  refine lv_iconst (v := 4) hx hb dA_straights_1 (by decide) ?_
  refine jv_lshl hx hb dA_straights_2 ?_
  refine lv_lload_n hx hb dA_straights_3 rfl (lv_at hl 0 rfl) ?_
  refine lv_bipush (v := 48) hx hb dA_straights_4 (by decide) ?_
  refine jv_lushr hx hb dA_straights_6 ?_
  refine lv_lor hx hb dA_straights_7 ?_
  refine lv_topl (fun x1 ex1 => ?_)
  refine lv_lstore_n (lv' := [(2, .long x1), (0, .long r)]) hx hb dA_straights_8 rfl hl (by decide) rfl (fun ls hl => ?_)
  refine lv_lload_n hx hb dA_straights_9 rfl (lv_at hl 0 rfl) ?_
  refine lv_lload_n hx hb dA_straights_10 rfl (lv_at hl 0 rfl) ?_
  refine lv_iconst (v := 4) hx hb dA_straights_11 (by decide) ?_
  refine jv_lushr hx hb dA_straights_12 ?_
  refine lv_land hx hb dA_straights_13 ?_
  refine lv_lload_n hx hb dA_straights_14 rfl (lv_at hl 0 rfl) ?_
  refine lv_bipush (v := 8) hx hb dA_straights_15 (by decide) ?_
  refine jv_lushr hx hb dA_straights_17 ?_
  refine lv_land hx hb dA_straights_18 ?_
  refine lv_lload_n hx hb dA_straights_19 rfl (lv_at hl 0 rfl) ?_
  refine lv_bipush (v := 12) hx hb dA_straights_20 (by decide) ?_
  refine jv_lushr hx hb dA_straights_22 ?_
  refine lv_land hx hb dA_straights_23 ?_
  refine lv_lload_n hx hb dA_straights_24 rfl (lv_at hl 0 rfl) ?_
  refine lv_bipush (v := 16) hx hb dA_straights_25 (by decide) ?_
  refine jv_lushr hx hb dA_straights_27 ?_
  refine lv_land hx hb dA_straights_28 ?_
  exact pu_lret hx hb hr hlk dA_straights_29 (by subst ex1; rfl)
set_option maxHeartbeats 4000000 in
set_option maxRecDepth 100000 in
theorem cA_highest (l : Launch) (r : Int64)  : pu_M l yA_highest bA_highest 4 (some .int) 1 [.long r] (fun _ => True) (.int (f_highest r)) := by
  refine Met.ofW (cc := bA_highest) (maxL := 4) (ret := (some .int)) (by decide) rfl ?_
  intro p e s m args below meth c s₁ BB hml hv
  obtain ⟨rfl, hB⟩ := hv
  have hx := BB.exec
  have hb := BB.bytes
  have hr := BB.returns
  have hlk := BB.notSynchronized
  have hts := atoms_spec (ws := wd yA_highest bA_highest 4 (some .int)) BB.pre
  have hown : s.vm.findClass "HandTables" = some m.cls := findClass_of_methodNamed BB.named
  have hS : CallFix p m c bA_highest 4 s _ (wd yA_highest bA_highest 4 (some .int)) "HandTables" := ⟨hx, hb, hml, hown, hts⟩
  have hl := lv_entry ([.long r]) (n := 4) (Nat.le_of_ble_eq_true rfl)
  rw [lg_entry_eq]
  generalize (lg_sl ([.long r]) ++ List.replicate (4 - (lg_sl ([.long r])).length) Slot.unset).toArray = ls at hl ⊢
  have hl : lv_has ls 4 [(0, .long r)] := hl
  refine lv_lload_n hx hb dA_highest_0 rfl (lv_at hl 0 rfl) ?_
  refine lv_lload_n hx hb dA_highest_1 rfl (lv_at hl 0 rfl) ?_
  refine lv_iconst (v := 4) hx hb dA_highest_2 (by decide) ?_
  refine jv_lushr hx hb dA_highest_3 ?_
  refine lv_lor hx hb dA_highest_4 ?_
  refine lv_topl (fun x1 ex1 => ?_)
  refine lv_lstore_n (lv' := [(2, .long x1), (0, .long r)]) hx hb dA_highest_5 rfl hl (by decide) rfl (fun ls hl => ?_)
  refine lv_lload_n hx hb dA_highest_6 rfl (lv_at hl 0 rfl) ?_
  refine lv_lload_n hx hb dA_highest_7 rfl (lv_at hl 0 rfl) ?_
  refine lv_bipush (v := 8) hx hb dA_highest_8 (by decide) ?_
  refine jv_lushr hx hb dA_highest_10 ?_
  refine lv_lor hx hb dA_highest_11 ?_
  refine lv_topl (fun x2 ex2 => ?_)
  refine lv_lstore_n (lv' := [(2, .long x2), (0, .long r)]) hx hb dA_highest_12 rfl hl (by decide) rfl (fun ls hl => ?_)
  refine lv_lload_n hx hb dA_highest_13 rfl (lv_at hl 0 rfl) ?_
  refine lv_lload_n hx hb dA_highest_14 rfl (lv_at hl 0 rfl) ?_
  refine lv_bipush (v := 16) hx hb dA_highest_15 (by decide) ?_
  refine jv_lushr hx hb dA_highest_17 ?_
  refine lv_lor hx hb dA_highest_18 ?_
  refine lv_topl (fun x3 ex3 => ?_)
  refine lv_lstore_n (lv' := [(2, .long x3), (0, .long r)]) hx hb dA_highest_19 rfl hl (by decide) rfl (fun ls hl => ?_)
  refine lv_lload_n hx hb dA_highest_20 rfl (lv_at hl 0 rfl) ?_
  refine lv_lload_n hx hb dA_highest_21 rfl (lv_at hl 0 rfl) ?_
  refine lv_bipush (v := 32) hx hb dA_highest_22 (by decide) ?_
  refine jv_lushr hx hb dA_highest_24 ?_
  refine lv_lor hx hb dA_highest_25 ?_
  refine lv_topl (fun x4 ex4 => ?_)
  refine lv_lstore_n (lv' := [(2, .long x4), (0, .long r)]) hx hb dA_highest_26 rfl hl (by decide) rfl (fun ls hl => ?_)
  refine lv_lload_n hx hb dA_highest_27 rfl (lv_at hl 0 rfl) ?_
  refine pu_S (cJ_bitCount l _) rfl kA_J_bitCount hS bl_T trivial rfl ⟨Nat.le_of_ble_eq_true rfl, Nat.le_of_ble_eq_true rfl⟩ hl.1 rfl (Nat.le_of_ble_eq_true rfl) ⟨Nat.zero_le _, Nat.zero_le _⟩ dA_highest_28 ?_
  refine lv_iconst (v := 1) hx hb dA_highest_31 (by decide) ?_
  refine lv_isub hx hb dA_highest_32 ?_
  exact pu_iret hx hb hr hlk dA_highest_33 (by subst ex4 ex3 ex2 ex1; rfl)
set_option maxHeartbeats 4000000 in
set_option maxRecDepth 100000 in
theorem cA_without (l : Launch) (r : Int64) (k : Int32)  : pu_M l yA_without bA_without 5 (some .long) 0 [.long r, .int k] (fun _ => True) (.long (f_without r k)) := by
  refine Met.ofW (cc := bA_without) (maxL := 5) (ret := (some .long)) (by decide) rfl ?_
  intro p e s m args below meth c s₁ BB hml hv
  obtain ⟨rfl, hB⟩ := hv
  have hx := BB.exec
  have hb := BB.bytes
  have hr := BB.returns
  have hlk := BB.notSynchronized
  have hts := atoms_spec (ws := wd yA_without bA_without 5 (some .long)) BB.pre
  have hown : s.vm.findClass "HandTables" = some m.cls := findClass_of_methodNamed BB.named
  have hS : CallFix p m c bA_without 5 s _ (wd yA_without bA_without 5 (some .long)) "HandTables" := ⟨hx, hb, hml, hown, hts⟩
  have hl := lv_entry ([.long r, .int k]) (n := 5) (Nat.le_of_ble_eq_true rfl)
  rw [lg_entry_eq]
  generalize (lg_sl ([.long r, .int k]) ++ List.replicate (5 - (lg_sl ([.long r, .int k])).length) Slot.unset).toArray = ls at hl ⊢
  have hl : lv_has ls 5 [(0, .long r), (2, .int k)] := hl
  refine lv_lconst (v := 1) hx hb dA_without_0 (by decide) ?_
  refine lv_iconst (v := 4) hx hb dA_without_1 (by decide) ?_
  refine lv_iload_n hx hb dA_without_2 rfl (lv_at hl 1 rfl) ?_
  refine lv_imul hx hb dA_without_3 ?_
  refine jv_lshl hx hb dA_without_4 ?_
  refine lv_lconst (v := 1) hx hb dA_without_5 (by decide) ?_
  refine lv_lsub hx hb dA_without_6 ?_
  refine lv_topl (fun x1 ex1 => ?_)
  refine lv_lstore_n (lv' := [(3, .long x1), (0, .long r), (2, .int k)]) hx hb dA_without_7 rfl hl (by decide) rfl (fun ls hl => ?_)
  refine lv_lload_n hx hb dA_without_8 rfl (lv_at hl 1 rfl) ?_
  refine lv_lload_n hx hb dA_without_9 rfl (lv_at hl 0 rfl) ?_
  refine lv_land hx hb dA_without_10 ?_
  refine lv_lload_n hx hb dA_without_11 rfl (lv_at hl 1 rfl) ?_
  refine lv_iconst (v := 4) hx hb dA_without_12 (by decide) ?_
  refine jv_lushr hx hb dA_without_13 ?_
  refine lv_lload_n hx hb dA_without_14 rfl (lv_at hl 0 rfl) ?_
  refine lv_ldc2 (v := (-1)) hx hb hown (hts _ (wd_in (gw_mem 183 rfl rfl))) dA_without_15 ?_
  refine lv_lxor hx hb dA_without_18 ?_
  refine lv_land hx hb dA_without_19 ?_
  refine lv_lor hx hb dA_without_20 ?_
  exact pu_lret hx hb hr hlk dA_without_21 (by subst ex1; rfl)
set_option maxHeartbeats 4000000 in
set_option maxRecDepth 100000 in
theorem cA_beside (l : Launch) (r : Int64) (k : Int32)  : pu_M l yA_beside bA_beside 5 (some .long) 0 [.long r, .int k] (fun _ => True) (.long (f_beside r k)) := by
  refine Met.ofW (cc := bA_beside) (maxL := 5) (ret := (some .long)) (by decide) rfl ?_
  intro p e s m args below meth c s₁ BB hml hv
  obtain ⟨rfl, hB⟩ := hv
  have hx := BB.exec
  have hb := BB.bytes
  have hr := BB.returns
  have hlk := BB.notSynchronized
  have hts := atoms_spec (ws := wd yA_beside bA_beside 5 (some .long)) BB.pre
  have hown : s.vm.findClass "HandTables" = some m.cls := findClass_of_methodNamed BB.named
  have hS : CallFix p m c bA_beside 5 s _ (wd yA_beside bA_beside 5 (some .long)) "HandTables" := ⟨hx, hb, hml, hown, hts⟩
  have hl := lv_entry ([.long r, .int k]) (n := 5) (Nat.le_of_ble_eq_true rfl)
  rw [lg_entry_eq]
  generalize (lg_sl ([.long r, .int k]) ++ List.replicate (5 - (lg_sl ([.long r, .int k])).length) Slot.unset).toArray = ls at hl ⊢
  have hl : lv_has ls 5 [(0, .long r), (2, .int k)] := hl
  refine lv_lconst (v := 1) hx hb dA_beside_0 (by decide) ?_
  refine lv_iconst (v := 4) hx hb dA_beside_1 (by decide) ?_
  refine lv_iload_n hx hb dA_beside_2 rfl (lv_at hl 1 rfl) ?_
  refine lv_imul hx hb dA_beside_3 ?_
  refine jv_lshl hx hb dA_beside_4 ?_
  refine lv_lconst (v := 1) hx hb dA_beside_5 (by decide) ?_
  refine lv_lsub hx hb dA_beside_6 ?_
  refine lv_topl (fun x1 ex1 => ?_)
  refine lv_lstore_n (lv' := [(3, .long x1), (0, .long r), (2, .int k)]) hx hb dA_beside_7 rfl hl (by decide) rfl (fun ls hl => ?_)
  refine lv_lload_n hx hb dA_beside_8 rfl (lv_at hl 1 rfl) ?_
  refine lv_lload_n hx hb dA_beside_9 rfl (lv_at hl 0 rfl) ?_
  refine lv_land hx hb dA_beside_10 ?_
  refine lv_lload_n hx hb dA_beside_11 rfl (lv_at hl 1 rfl) ?_
  refine lv_lload_n hx hb dA_beside_12 rfl (lv_at hl 0 rfl) ?_
  refine lv_ldc2 (v := (-1)) hx hb hown (hts _ (wd_in (gw_mem 183 rfl rfl))) dA_beside_13 ?_
  refine lv_lxor hx hb dA_beside_16 ?_
  refine lv_land hx hb dA_beside_17 ?_
  refine lv_iconst (v := 4) hx hb dA_beside_18 (by decide) ?_
  refine jv_lshl hx hb dA_beside_19 ?_
  refine lv_lor hx hb dA_beside_20 ?_
  exact pu_lret hx hb hr hlk dA_beside_21 (by subst ex1; rfl)
set_option maxHeartbeats 4000000 in
set_option maxRecDepth 100000 in
theorem cA_choose (l : Launch) (t : Int32) (k : Int32) (hi : vp_in ((k - 1) * 13 + t) l_CHOOSE.length) : pu_M l yA_choose bA_choose 2 (some .int) 0 [.int t, .int k] ta_F (.int (f_choose t k)) := by
  refine Met.ofW (cc := bA_choose) (maxL := 2) (ret := (some .int)) (by decide) rfl ?_
  intro p e s m args below meth c s₁ BB hml hv
  obtain ⟨rfl, hB⟩ := hv
  have hx := BB.exec
  have hb := BB.bytes
  have hr := BB.returns
  have hlk := BB.notSynchronized
  have hts := atoms_spec (ws := wd yA_choose bA_choose 2 (some .int)) BB.pre
  have hown : s.vm.findClass "HandTables" = some m.cls := findClass_of_methodNamed BB.named
  have hS : CallFix p m c bA_choose 2 s _ (wd yA_choose bA_choose 2 (some .int)) "HandTables" := ⟨hx, hb, hml, hown, hts⟩
  obtain ⟨⟨t1, hT1⟩, ⟨t2, hT2⟩, ⟨t3, hT3⟩, ⟨t4, hT4⟩⟩ := id hB
  have hl := lv_entry ([.int t, .int k]) (n := 2) (Nat.le_of_ble_eq_true rfl)
  rw [lg_entry_eq]
  generalize (lg_sl ([.int t, .int k]) ++ List.replicate (2 - (lg_sl ([.int t, .int k])).length) Slot.unset).toArray = ls at hl ⊢
  have hl : lv_has ls 2 [(0, .int t), (1, .int k)] := hl
  refine ta_get hx hb hT4 hown (hts _ (wd_in (gw_mem 190 rfl rfl))) dA_choose_0 ?_
  refine lv_iload_n hx hb dA_choose_3 rfl (lv_at hl 1 rfl) ?_
  refine lv_iconst (v := 1) hx hb dA_choose_4 (by decide) ?_
  refine lv_isub hx hb dA_choose_5 ?_
  refine lv_bipush (v := 13) hx hb dA_choose_6 (by decide) ?_
  refine lv_imul hx hb dA_choose_8 ?_
  refine lv_iload_n hx hb dA_choose_9 rfl (lv_at hl 0 rfl) ?_
  refine lv_iadd hx hb dA_choose_10 ?_
  refine ta_ld hx hb hT4 hi dA_choose_11 ?_
  exact pu_iret hx hb hr hlk dA_choose_12 (by rfl)
