/-! the law's cases -/
abbrev lw_j (xs : Nat → Int32) (i : Nat) (k : Int32) : Int32 := xs (nI i + k).toNatClampNeg
abbrev lw_x (xs : Nat → Int32) (i : Nat) : Int64 := jl (lw_j xs i 1).toInt64 32 ||| ((lw_j xs i 2).toInt64 &&& 4294967295)
/-- what doesn't change while the law runs -/
def LC (s : State) (g : xo_E) (gm : mo_E) (o : Nat) : Prop := xo_ap g ∧ mo_ap gm ∧ ¬ mu_fr g o ∧ (∀ q, mo_fr gm q → ¬ wr_fr g o q) ∧ (∀ q, wr_fr g o q → nw_A s q) ∧ (∀ q, mo_fr gm q → nw_A s q) ∧ va_K g.1 cl_X [(g.2.1, .long), (g.2.2.1, .int)] s ∧ va_K gm.1 cl_X [(gm.2.1, .int)] s ∧ ta_F s ∧ ex_F s ∧ nc_F s
theorem lw_in1 {i L : Nat} (h : i + 4 ≤ L) (hL : L ≤ 2048) : vp_in (nI i + 1) L := by
  rw [nI_1]
  exact vp_in_nI (by omega) (by omega)
theorem lw_in2 {i L : Nat} (h : i + 4 ≤ L) (hL : L ≤ 2048) : vp_in (nI i + 2) L := by
  rw [show nI i + 2 = nI (i + 2) from nI_add i 2]
  exact vp_in_nI (by omega) (by omega)
theorem lw_in3 {i L : Nat} (h : i + 4 ≤ L) (hL : L ≤ 2048) : vp_in (nI i + 3) L := by
  rw [show nI i + 3 = nI (i + 3) from nI_add i 3]
  exact vp_in_nI (by omega) (by omega)
section LK
variable {s : State} {g : xo_E} {gm : mo_E} {o : Nat} {T : Nat → Int64} {dk : Nat → Int32} {dn : Int32} {f : Nat → Int64} {S : mS} {H H1 : Heap} {locs : List Loc}
theorem lw_old (hS : va_S (nw_A s) s.heap H locs) : ∀ a : Nat, a < s.heap.size → H[a]? = s.heap[a]? := fun a ha => hS.2.1 a ha (fun z => absurd ha (Nat.not_lt.mpr z))
theorem xo_of (hC : LC s g gm o) (hP : va_P g.1 cl_X (xq_W g o T dk dn f) H) (hS : va_S (nw_A s) s.heap H locs) : ∀ U : State, U.heap = H → s.WarmedH U.vm → xo_F g T dk dn U := by
  obtain ⟨hap, ham, ho, hdis, hA1, hA2, hK1, hK2, hTa, hEx, hNc⟩ := hC
  exact fun U hU hW => ⟨ta_keep hTa (lw_old hS) hU hW, ex_keep hEx (lw_old hS) hU hW, by rw [hU]; exact hP.sub [0, 1, 2] rfl, va_K.moved hW.alike hK1⟩
theorem lq_of (hC : LC s g gm o) (hP : va_P g.1 cl_X (xq_W g o T dk dn f) H) (hS : va_S (nw_A s) s.heap H locs) : ∀ U : State, U.heap = H → s.WarmedH U.vm → lq_F g o T dk dn f U := fun U hU hW =>
  ⟨xo_of hC hP hS U hU hW, ⟨hC.2.2.2.2.2.2.2.2.2.2.1.moved hW.alike, hC.2.2.2.2.2.2.2.2.2.2.2.1.moved hW.alike, hC.2.2.2.2.2.2.2.2.2.2.2.2.moved hW.alike⟩, by rw [hU]; exact hP.sub [3] rfl⟩
theorem mo_kept (hC : LC s g gm o) (hP : va_P gm.1 cl_X (mo_W gm S) H) (hk : ∀ q : Nat, q < H.size → ¬ wr_fr g o q → H1[q]? = H[q]?) : va_P gm.1 cl_X (mo_W gm S) H1 :=
  hP.kept (fun k q hq => hk q.1 (hP k q hq).lt (hC.2.2.2.1 _ ⟨k, (mo_nth hq).1, (mo_nth hq).2⟩))
theorem xq_fr {k : Nat} {q : Nat × va_E} (h : (xq_W g o T dk dn f)[k]? = some q) : wr_fr g o q.1 := by
  match k with
  | 0 => cases h; exact Or.inr (Or.inl rfl)
  | 1 => cases h; exact Or.inr (Or.inr (Or.inl rfl))
  | 2 => cases h; exact Or.inr (Or.inr (Or.inr rfl))
  | 3 => cases h; exact Or.inl rfl
  | n + 4 => cases h
theorem xq_kept (hC : LC s g gm o) (hP : va_P g.1 cl_X (xq_W g o T dk dn f) H) (hk : ∀ q : Nat, q < H.size → ¬ mo_fr gm q → H1[q]? = H[q]?) : va_P g.1 cl_X (xq_W g o T dk dn f) H1 :=
  hP.kept (fun k q hq => hk q.1 (hP k q hq).lt (fun z => hC.2.2.2.1 _ z (xq_fr hq)))
/-- a change of the class's cells leaves the law's long -/
theorem xq_back (hC : LC s g gm o) {T1 : Nat → Int64} {dk1 : Nat → Int32} {dn1 : Int32} (hP : va_P g.1 cl_X (xq_W g o T dk dn f) H) (h1 : va_P g.1 cl_X (xo_W g T1 dk1 dn1) H1) (hk : ∀ q : Nat, q < H.size → ¬ mu_fr g q → H1[q]? = H[q]?) : va_P g.1 cl_X (xq_W g o T1 dk1 dn1 f) H1 := by
  have hO : va_P g.1 cl_X [(o, .inl (g.2.1, 1, .inr (.inl f)))] H := hP.sub [3] rfl
  refine va_P.app (w1 := xo_W g T1 dk1 dn1) h1 (hO.kept (fun k q hq => ?_))
  match k with
  | 0 => cases hq; exact hk o (hO 0 _ rfl).lt hC.2.2.1
  | n + 1 => cases hq
end LK
theorem cM_th (l : Launch) (g : mo_E) (S : mS) (hap : mo_ap g) : mm_M l yM_thrown bM_thrown 1 (some .int) 0 [.ref (g.2.2 0)] g S (fun v S1 => v = some (.int S.1) ∧ S1 = S) := cM_thrown l g S.1 S.2.1 S.2.2.1 S.2.2.2.1 S.2.2.2.2.1 S.2.2.2.2.2.1 S.2.2.2.2.2.2.1 S.2.2.2.2.2.2.2.1 S.2.2.2.2.2.2.2.2.1 S.2.2.2.2.2.2.2.2.2.1 S.2.2.2.2.2.2.2.2.2.2.1 S.2.2.2.2.2.2.2.2.2.2.2.1 S.2.2.2.2.2.2.2.2.2.2.2.2.1 S.2.2.2.2.2.2.2.2.2.2.2.2.2.1 S.2.2.2.2.2.2.2.2.2.2.2.2.2.2.1 S.2.2.2.2.2.2.2.2.2.2.2.2.2.2.2.1 S.2.2.2.2.2.2.2.2.2.2.2.2.2.2.2.2.1 S.2.2.2.2.2.2.2.2.2.2.2.2.2.2.2.2.2.1 S.2.2.2.2.2.2.2.2.2.2.2.2.2.2.2.2.2.2.1 S.2.2.2.2.2.2.2.2.2.2.2.2.2.2.2.2.2.2.2 hap

set_option maxRecDepth 20000 in
theorem kW_value : cw_W "HandTablesLaw" 77 yL_value bL_value 5 [(0, 9, 12, 13)] 3 := ⟨(gw_mem 85 rfl rfl), (gw_mem 86 rfl rfl), (gw_mem 26 rfl rfl), (gw_mem 87 rfl rfl), by decide +kernel⟩
set_option maxRecDepth 20000 in
theorem kW_category : cw_W "HandTablesLaw" 86 yL_category bL_category 5 [(0, 9, 12, 13)] 3 := ⟨(gw_mem 200 rfl rfl), (gw_mem 201 rfl rfl), (gw_mem 26 rfl rfl), (gw_mem 202 rfl rfl), by decide +kernel⟩
set_option maxRecDepth 20000 in
theorem kW_best : cw_W "HandTablesLaw" 89 yL_best bL_best 5 [(0, 8, 11, 13)] 3 := ⟨(gw_mem 210 rfl rfl), (gw_mem 211 rfl rfl), (gw_mem 26 rfl rfl), (gw_mem 212 rfl rfl), by decide +kernel⟩
set_option maxRecDepth 20000 in
theorem kW_worth : cw_W "HandTablesLaw" 92 yL_worth bL_worth 4 [(0, 9, 12, 13)] 3 := ⟨(gw_mem 220 rfl rfl), (gw_mem 221 rfl rfl), (gw_mem 26 rfl rfl), (gw_mem 222 rfl rfl), by decide +kernel⟩
set_option maxRecDepth 20000 in
theorem kW_sets : cw_W "HandTablesLaw" 96 yL_sets bL_sets 4 [(0, 9, 12, 13)] 3 := ⟨(gw_mem 252 rfl rfl), (gw_mem 253 rfl rfl), (gw_mem 26 rfl rfl), (gw_mem 254 rfl rfl), by decide +kernel⟩
set_option maxRecDepth 20000 in
theorem kW_first : cw_W "HandTablesLaw" 99 yL_first bL_first 4 [(0, 9, 12, 13)] 3 := ⟨(gw_mem 261 rfl rfl), (gw_mem 262 rfl rfl), (gw_mem 26 rfl rfl), (gw_mem 263 rfl rfl), by decide +kernel⟩
set_option maxRecDepth 20000 in
theorem kW_seat : cw_W "HandTablesLaw" 102 yL_seat bL_seat 6 [(0, 19, 22, 36), (0, 19, 26, 13)] 5 := ⟨(gw_mem 269 rfl rfl), (gw_mem 270 rfl rfl), (gw_mem 26 rfl rfl), (gw_mem 271 rfl rfl), by decide +kernel⟩
set_option maxRecDepth 20000 in
theorem kW_leave : cw_W "HandTablesLaw" 106 yL_leave bL_leave 4 [(0, 16, 19, 36)] 3 := ⟨(gw_mem 304 rfl rfl), (gw_mem 305 rfl rfl), (gw_mem 26 rfl rfl), (gw_mem 306 rfl rfl), by decide +kernel⟩
set_option maxRecDepth 20000 in
theorem kW_board : cw_W "HandTablesLaw" 109 yL_board bL_board 4 [(0, 9, 12, 13)] 3 := ⟨(gw_mem 311 rfl rfl), (gw_mem 312 rfl rfl), (gw_mem 26 rfl rfl), (gw_mem 313 rfl rfl), by decide +kernel⟩
set_option maxRecDepth 20000 in
theorem kW_cards : cw_W "HandTablesLaw" 116 yL_cards bL_cards 4 [(0, 8, 11, 36)] 3 := ⟨(gw_mem 322 rfl rfl), (gw_mem 323 rfl rfl), (gw_mem 26 rfl rfl), (gw_mem 324 rfl rfl), by decide +kernel⟩
set_option maxRecDepth 20000 in
theorem kW_hand : cw_W "HandTablesLaw" 119 yL_hand bL_hand 4 [(0, 9, 12, 36), (0, 9, 15, 52)] 3 := ⟨(gw_mem 329 rfl rfl), (gw_mem 330 rfl rfl), (gw_mem 26 rfl rfl), (gw_mem 331 rfl rfl), by decide +kernel⟩
set_option maxRecDepth 20000 in
theorem kW_ahead : cw_W "HandTablesLaw" 122 yL_ahead bL_ahead 3 [(0, 8, 11, 52)] 2 := ⟨(gw_mem 362 rfl rfl), (gw_mem 363 rfl rfl), (gw_mem 26 rfl rfl), (gw_mem 364 rfl rfl), by decide +kernel⟩
set_option maxRecDepth 20000 in
theorem kW_boards : cw_W "HandTablesLaw" 126 yL_boards bL_boards 3 [(0, 8, 11, 52)] 2 := ⟨(gw_mem 373 rfl rfl), (gw_mem 374 rfl rfl), (gw_mem 26 rfl rfl), (gw_mem 375 rfl rfl), by decide +kernel⟩
set_option maxRecDepth 20000 in
theorem kW_wins : cw_W "HandTablesLaw" 129 yL_wins bL_wins 5 [(0, 10, 13, 36), (0, 10, 17, 13), (0, 10, 21, 52)] 4 := ⟨(gw_mem 385 rfl rfl), (gw_mem 386 rfl rfl), (gw_mem 26 rfl rfl), (gw_mem 387 rfl rfl), by decide +kernel⟩
set_option maxRecDepth 20000 in
theorem kW_outs : cw_W "HandTablesLaw" 133 yL_outs bL_outs 4 [(0, 8, 11, 36), (0, 8, 14, 52)] 3 := ⟨(gw_mem 399 rfl rfl), (gw_mem 400 rfl rfl), (gw_mem 26 rfl rfl), (gw_mem 401 rfl rfl), by decide +kernel⟩
set_option maxRecDepth 20000 in
theorem kW_share : cw_W "HandTablesLaw" 136 yL_share bL_share 5 [(0, 10, 13, 36), (0, 10, 17, 13), (0, 10, 21, 52)] 4 := ⟨(gw_mem 407 rfl rfl), (gw_mem 408 rfl rfl), (gw_mem 26 rfl rfl), (gw_mem 409 rfl rfl), by decide +kernel⟩
set_option maxHeartbeats 4000000 in
set_option maxRecDepth 100000 in
theorem lw_value {p : Program} {e : Env} {s : State} {m : MethodId} {below : List Frame} {meth : Method} {c : Code} {b L : Nat} {xs : Nat → Int32} {g : xo_E} {gm : mo_E} {o : Nat} {T : Nat → Int64} {dk : Nat → Int32} {dn : Int32} {f : Nat → Int64} {S : mS} {H : Heap} {locs : List Loc} {cells slots i : Nat} {ls : Array Slot} {Q : State → Prop} (l : Launch) (C0 : lw_At p s m meth c b L xs) (hL : L ≤ 2048) (hi : i + 4 ≤ L) (hC : LC s g gm o) (hP1 : va_P g.1 cl_X (xq_W g o T dk dn f) H) (hP2 : va_P gm.1 cl_X (mo_W gm S) H) (hSS : va_S (nw_A s) s.heap H locs) (hl : lv_has ls 8 [(4, .int (nI i)), (3, .ref o), (2, .ref (gm.2.2 0)), (1, .ref (xo_a g)), (0, .ref b)]) (hf : cells + 1 ≤ room_1.cells ∧ slots + 6 ≤ room_1.slots) (res : mu_R) (dd : Nat) (hdd : dd ≤ 9) (hM : mu_M l yA_value bA_value 3 (some .int) dd (.ref (xo_a g) :: [.long (lw_x xs i)]) g (xo_F g T dk dn) res) (hE : ∀ E, res = .inl E → E = ex_IA) (hV : ∀ v T1 k1 n1, res = .inr (v, T1, k1, n1) → ∃ z : Int32, v = some (.int z)) (dm : Nat) (hdm : dm ≤ 9) (R1 : mm_T) (hMM : mm_M l yM_value bM_value 3 (some .int) dm (.ref (gm.2.2 0) :: [.long (lw_x xs i)]) gm S R1) (tie : ∀ (k : Int32) (z : Int64) (T1 : Nat → Int64) (dk1 : Nat → Int32) (dn1 : Int32) (v : Option Value) (S1 : mS), ((res = .inl ex_IA ∧ k = 1 ∧ T1 = T ∧ dk1 = dk ∧ dn1 = dn) ∨ (∃ v : Int32, res = .inr (some (.int v), T1, dk1, dn1) ∧ k = 0 ∧ z = v.toInt64)) → R1 v S1 → ∃ y : Int32, v = some (.int y) ∧ k = S1.1 ∧ (k = 0 → z = y.toInt64) ∧ Inv T1 dk1 dn1 S1) (K : ∀ (T1 : Nat → Int64) (dk1 : Nat → Int32) (dn1 : Int32) (f1 : Nat → Int64) (S1 : mS) (H1 : Heap) (locs1 : List Loc) (ls1 : Array Slot), va_P g.1 cl_X (xq_W g o T1 dk1 dn1 f1) H1 → va_P gm.1 cl_X (mo_W gm S1) H1 → va_S (nw_A s) s.heap H1 locs1 → Inv T1 dk1 dn1 S1 → lv_has ls1 8 [(4, .int (nI i)), (3, .ref o), (2, .ref (gm.2.2 0)), (1, .ref (xo_a g)), (0, .ref b)] → W p l e room_1 s m #[Value.ref b] below meth c H1 locs1 (cells + 1) (slots + 6) Q (F0 m 1204 ls1 [])) : W p l e room_1 s m #[Value.ref b] below meth c H locs cells slots Q (F0 m 128 ls []) := by
  obtain ⟨hx, hb, hr, hml, hown, hts, hX, hbl, hlk, -⟩ := id C0
  have hG : ∀ w ∈ gw, w.before #[Value.ref b] s = true := fun w hw => hts w (List.mem_filter.mp hw).1
  have hS9 : CallFix p m c code 8 s #[Value.ref b] gw "HandTablesLaw" := ⟨hx, hb, hml, hown, hG⟩
  have hT9 : ∀ w ∈ gw, w ∈ gw := fun _ h => h
  obtain ⟨hap, ham, ho, hdis, hA1, hA2, hK1, hK2, hTa, hEx, hNc⟩ := id hC
  have hbA : ¬ nw_A s b := fun z => absurd hbl (Nat.not_lt.mpr z)
  refine lv_aload_n hx hb dW_128 rfl (lv_at hl 3 rfl) ?_
  refine lv_aload_n hx hb dW_129 rfl (lv_at hl 4 rfl) ?_
  refine lv_iload hx hb dW_130 (lv_at hl 0 rfl) ?_
  refine lv_iconst (v := 1) hx hb dW_132 (by decide) ?_
  refine lv_iadd hx hb dW_133 ?_
  refine va_sld hx hb hX hbl hbA hSS (lw_in1 hi hL) dW_134 ?_
  refine jv_i2l hx hb dW_135 ?_
  refine lv_bipush (v := 32) hx hb dW_136 (by decide) ?_
  refine jv_lshl hx hb dW_138 ?_
  refine lv_aload_n hx hb dW_139 rfl (lv_at hl 4 rfl) ?_
  refine lv_iload hx hb dW_140 (lv_at hl 0 rfl) ?_
  refine lv_iconst (v := 2) hx hb dW_142 (by decide) ?_
  refine lv_iadd hx hb dW_143 ?_
  refine va_sld hx hb hX hbl hbA hSS (lw_in2 hi hL) dW_144 ?_
  refine jv_i2l hx hb dW_145 ?_
  refine lv_ldc2 (v := 4294967295) hx hb hown (hG _ (gw_mem 656 rfl rfl)) dW_146 ?_
  refine lv_land hx hb dW_149 ?_
  refine lv_lor hx hb dW_150 ?_
  refine lv_aload_n hx hb dW_151 rfl (lv_at hl 1 rfl) ?_
  refine wq_S (cL_value l g o T dk dn f (lw_x xs i) hap ho res dd hdd hM hE hV) rfl hT9 kW_value hS9 (lq_of hC hP1 hSS) ⟨Nat.le_of_ble_eq_true rfl, Nat.le_of_ble_eq_true rfl⟩ hl.1 rfl (Nat.le_of_ble_eq_true rfl) hf dW_152 hSS hA1 (fun k f1 T1 dk1 dn1 H locs hR0 hP1 hSS hz hk => ?_)
  have hP2 := mo_kept hC hP2 hk
  refine lv_istore (lv' := [(5, .int k), (4, .int (nI i)), (3, .ref o), (2, .ref (gm.2.2 0)), (1, .ref (xo_a g)), (0, .ref b)]) hx hb dW_155 hl (by decide) rfl (fun ls hl => ?_)
  refine lv_aload_n hx hb dW_157 rfl (lv_at hl 3 rfl) ?_
  refine lv_aload_n hx hb dW_158 rfl (lv_at hl 5 rfl) ?_
  refine lv_iload hx hb dW_159 (lv_at hl 1 rfl) ?_
  refine lv_iconst (v := 1) hx hb dW_161 (by decide) ?_
  refine lv_iadd hx hb dW_162 ?_
  refine va_sld hx hb hX hbl hbA hSS (lw_in1 hi hL) dW_163 ?_
  refine jv_i2l hx hb dW_164 ?_
  refine lv_bipush (v := 32) hx hb dW_165 (by decide) ?_
  refine jv_lshl hx hb dW_167 ?_
  refine lv_aload_n hx hb dW_168 rfl (lv_at hl 5 rfl) ?_
  refine lv_iload hx hb dW_169 (lv_at hl 1 rfl) ?_
  refine lv_iconst (v := 2) hx hb dW_171 (by decide) ?_
  refine lv_iadd hx hb dW_172 ?_
  refine va_sld hx hb hX hbl hbA hSS (lw_in2 hi hL) dW_173 ?_
  refine jv_i2l hx hb dW_174 ?_
  refine lv_ldc2 (v := 4294967295) hx hb hown (hG _ (gw_mem 656 rfl rfl)) dW_175 ?_
  refine lv_land hx hb dW_178 ?_
  refine lv_lor hx hb dW_179 ?_
  refine mm_VT hMM rfl hT9 kL_M_value hS9 hK2 hP2 ⟨Nat.le_trans (show dm + 1 ≤ 10 by omega) (Nat.le_of_ble_eq_true rfl), Nat.le_trans (show _ ≤ 1000 by omega) (Nat.le_of_ble_eq_true rfl)⟩ hl.1 rfl (Nat.le_of_ble_eq_true rfl) hf dW_180 hSS hA2 (fun v S1 H locs hR1 hP2 hSS hz hk2 => ?_)
  have hP1 := xq_kept hC hP1 hk2
  obtain ⟨y, rfl, hkk, hzz, hInv⟩ := tie k (f1 0) T1 dk1 dn1 v S1 hR0 hR1
  refine lv_istore (lv' := [(6, .int y), (5, .int k), (4, .int (nI i)), (3, .ref o), (2, .ref (gm.2.2 0)), (1, .ref (xo_a g)), (0, .ref b)]) hx hb dW_183 hl (by decide) rfl (fun ls hl => ?_)
  refine lv_aload_n hx hb dW_185 rfl (lv_at hl 4 rfl) ?_
  refine mm_VT (cM_th l gm S1 ham) rfl hT9 kL_M_thrown hS9 hK2 hP2 ⟨Nat.le_of_ble_eq_true rfl, Nat.le_of_ble_eq_true rfl⟩ hl.1 rfl (Nat.le_of_ble_eq_true rfl) hf dW_186 hSS hA2 (fun v9 S9 H locs hR9 hP2 hSS hz hk3 => ?_)
  obtain ⟨rfl, e9⟩ := hR9
  rw [e9] at hP2
  have hP1 := xq_kept hC hP1 hk3
  refine lv_iload hx hb dW_189 (lv_at hl 1 rfl) ?_
  refine lv_icmp_eq (tgt := 196) hx hb dW_191 (by decide) (fun hc1 => ?_) (fun hc1 => absurd hkk.symm hc1)
  refine lv_iload hx hb dW_196 (lv_at hl 1 rfl) ?_
  refine lv_if_ne (tgt := 213) hx hb dW_198 (by decide) (fun hc2 => ?_) (fun hc2 => ?_)
  · refine lv_goto (tgt := 1204) hx hb dW_213 (by decide) ?_
    exact K _ _ _ _ _ _ _ _ hP1 hP2 hSS hInv (lv_sub hl [2, 3, 4, 5, 6] rfl)
  refine lv_aload_n hx hb dW_201 rfl (lv_at hl 3 rfl) ?_
  refine lv_iconst (v := 0) hx hb dW_202 (by decide) ?_
  refine va_lald hx hb hK1 hP1 3 0 rfl rfl (by unfold vp_in; decide) dW_203 ?_
  refine lv_iload hx hb dW_204 (lv_at hl 0 rfl) ?_
  refine jv_i2l hx hb dW_206 ?_
  refine jv_lceq (tgt := 213) hx hb dW_207 dW_208 (by decide) (fun hc4 => ?_) (fun hc4 => absurd (hzz hc2) hc4)
  refine lv_goto (tgt := 1204) hx hb dW_213 (by decide) ?_
  exact K _ _ _ _ _ _ _ _ hP1 hP2 hSS hInv (lv_sub hl [2, 3, 4, 5, 6] rfl)
set_option maxHeartbeats 4000000 in
set_option maxRecDepth 100000 in
theorem lw_category {p : Program} {e : Env} {s : State} {m : MethodId} {below : List Frame} {meth : Method} {c : Code} {b L : Nat} {xs : Nat → Int32} {g : xo_E} {gm : mo_E} {o : Nat} {T : Nat → Int64} {dk : Nat → Int32} {dn : Int32} {f : Nat → Int64} {S : mS} {H : Heap} {locs : List Loc} {cells slots i : Nat} {ls : Array Slot} {Q : State → Prop} (l : Launch) (C0 : lw_At p s m meth c b L xs) (hL : L ≤ 2048) (hi : i + 4 ≤ L) (hC : LC s g gm o) (hP1 : va_P g.1 cl_X (xq_W g o T dk dn f) H) (hP2 : va_P gm.1 cl_X (mo_W gm S) H) (hSS : va_S (nw_A s) s.heap H locs) (hl : lv_has ls 8 [(4, .int (nI i)), (3, .ref o), (2, .ref (gm.2.2 0)), (1, .ref (xo_a g)), (0, .ref b)]) (hf : cells + 1 ≤ room_1.cells ∧ slots + 6 ≤ room_1.slots) (res : mu_R) (dd : Nat) (hdd : dd ≤ 9) (hM : mu_M l yA_category bA_category 3 (some .int) dd (.ref (xo_a g) :: [.long (lw_x xs i)]) g (xo_F g T dk dn) res) (hE : ∀ E, res = .inl E → E = ex_IA) (hV : ∀ v T1 k1 n1, res = .inr (v, T1, k1, n1) → ∃ z : Int32, v = some (.int z)) (dm : Nat) (hdm : dm ≤ 9) (R1 : mm_T) (hMM : mm_M l yM_category bM_category 3 (some .int) dm (.ref (gm.2.2 0) :: [.long (lw_x xs i)]) gm S R1) (tie : ∀ (k : Int32) (z : Int64) (T1 : Nat → Int64) (dk1 : Nat → Int32) (dn1 : Int32) (v : Option Value) (S1 : mS), ((res = .inl ex_IA ∧ k = 1 ∧ T1 = T ∧ dk1 = dk ∧ dn1 = dn) ∨ (∃ v : Int32, res = .inr (some (.int v), T1, dk1, dn1) ∧ k = 0 ∧ z = v.toInt64)) → R1 v S1 → ∃ y : Int32, v = some (.int y) ∧ k = S1.1 ∧ (k = 0 → z = y.toInt64) ∧ Inv T1 dk1 dn1 S1) (K : ∀ (T1 : Nat → Int64) (dk1 : Nat → Int32) (dn1 : Int32) (f1 : Nat → Int64) (S1 : mS) (H1 : Heap) (locs1 : List Loc) (ls1 : Array Slot), va_P g.1 cl_X (xq_W g o T1 dk1 dn1 f1) H1 → va_P gm.1 cl_X (mo_W gm S1) H1 → va_S (nw_A s) s.heap H1 locs1 → Inv T1 dk1 dn1 S1 → lv_has ls1 8 [(4, .int (nI i)), (3, .ref o), (2, .ref (gm.2.2 0)), (1, .ref (xo_a g)), (0, .ref b)] → W p l e room_1 s m #[Value.ref b] below meth c H1 locs1 (cells + 1) (slots + 6) Q (F0 m 1204 ls1 [])) : W p l e room_1 s m #[Value.ref b] below meth c H locs cells slots Q (F0 m 216 ls []) := by
  obtain ⟨hx, hb, hr, hml, hown, hts, hX, hbl, hlk, -⟩ := id C0
  have hG : ∀ w ∈ gw, w.before #[Value.ref b] s = true := fun w hw => hts w (List.mem_filter.mp hw).1
  have hS9 : CallFix p m c code 8 s #[Value.ref b] gw "HandTablesLaw" := ⟨hx, hb, hml, hown, hG⟩
  have hT9 : ∀ w ∈ gw, w ∈ gw := fun _ h => h
  obtain ⟨hap, ham, ho, hdis, hA1, hA2, hK1, hK2, hTa, hEx, hNc⟩ := id hC
  have hbA : ¬ nw_A s b := fun z => absurd hbl (Nat.not_lt.mpr z)
  refine lv_aload_n hx hb dW_216 rfl (lv_at hl 3 rfl) ?_
  refine lv_aload_n hx hb dW_217 rfl (lv_at hl 4 rfl) ?_
  refine lv_iload hx hb dW_218 (lv_at hl 0 rfl) ?_
  refine lv_iconst (v := 1) hx hb dW_220 (by decide) ?_
  refine lv_iadd hx hb dW_221 ?_
  refine va_sld hx hb hX hbl hbA hSS (lw_in1 hi hL) dW_222 ?_
  refine jv_i2l hx hb dW_223 ?_
  refine lv_bipush (v := 32) hx hb dW_224 (by decide) ?_
  refine jv_lshl hx hb dW_226 ?_
  refine lv_aload_n hx hb dW_227 rfl (lv_at hl 4 rfl) ?_
  refine lv_iload hx hb dW_228 (lv_at hl 0 rfl) ?_
  refine lv_iconst (v := 2) hx hb dW_230 (by decide) ?_
  refine lv_iadd hx hb dW_231 ?_
  refine va_sld hx hb hX hbl hbA hSS (lw_in2 hi hL) dW_232 ?_
  refine jv_i2l hx hb dW_233 ?_
  refine lv_ldc2 (v := 4294967295) hx hb hown (hG _ (gw_mem 656 rfl rfl)) dW_234 ?_
  refine lv_land hx hb dW_237 ?_
  refine lv_lor hx hb dW_238 ?_
  refine lv_aload_n hx hb dW_239 rfl (lv_at hl 1 rfl) ?_
  refine wq_S (cL_category l g o T dk dn f (lw_x xs i) hap ho res dd hdd hM hE hV) rfl hT9 kW_category hS9 (lq_of hC hP1 hSS) ⟨Nat.le_of_ble_eq_true rfl, Nat.le_of_ble_eq_true rfl⟩ hl.1 rfl (Nat.le_of_ble_eq_true rfl) hf dW_240 hSS hA1 (fun k f1 T1 dk1 dn1 H locs hR0 hP1 hSS hz hk => ?_)
  have hP2 := mo_kept hC hP2 hk
  refine lv_istore (lv' := [(5, .int k), (4, .int (nI i)), (3, .ref o), (2, .ref (gm.2.2 0)), (1, .ref (xo_a g)), (0, .ref b)]) hx hb dW_243 hl (by decide) rfl (fun ls hl => ?_)
  refine lv_aload_n hx hb dW_245 rfl (lv_at hl 3 rfl) ?_
  refine lv_aload_n hx hb dW_246 rfl (lv_at hl 5 rfl) ?_
  refine lv_iload hx hb dW_247 (lv_at hl 1 rfl) ?_
  refine lv_iconst (v := 1) hx hb dW_249 (by decide) ?_
  refine lv_iadd hx hb dW_250 ?_
  refine va_sld hx hb hX hbl hbA hSS (lw_in1 hi hL) dW_251 ?_
  refine jv_i2l hx hb dW_252 ?_
  refine lv_bipush (v := 32) hx hb dW_253 (by decide) ?_
  refine jv_lshl hx hb dW_255 ?_
  refine lv_aload_n hx hb dW_256 rfl (lv_at hl 5 rfl) ?_
  refine lv_iload hx hb dW_257 (lv_at hl 1 rfl) ?_
  refine lv_iconst (v := 2) hx hb dW_259 (by decide) ?_
  refine lv_iadd hx hb dW_260 ?_
  refine va_sld hx hb hX hbl hbA hSS (lw_in2 hi hL) dW_261 ?_
  refine jv_i2l hx hb dW_262 ?_
  refine lv_ldc2 (v := 4294967295) hx hb hown (hG _ (gw_mem 656 rfl rfl)) dW_263 ?_
  refine lv_land hx hb dW_266 ?_
  refine lv_lor hx hb dW_267 ?_
  refine mm_VT hMM rfl hT9 kL_M_category hS9 hK2 hP2 ⟨Nat.le_trans (show dm + 1 ≤ 10 by omega) (Nat.le_of_ble_eq_true rfl), Nat.le_trans (show _ ≤ 1000 by omega) (Nat.le_of_ble_eq_true rfl)⟩ hl.1 rfl (Nat.le_of_ble_eq_true rfl) hf dW_268 hSS hA2 (fun v S1 H locs hR1 hP2 hSS hz hk2 => ?_)
  have hP1 := xq_kept hC hP1 hk2
  obtain ⟨y, rfl, hkk, hzz, hInv⟩ := tie k (f1 0) T1 dk1 dn1 v S1 hR0 hR1
  refine lv_istore (lv' := [(6, .int y), (5, .int k), (4, .int (nI i)), (3, .ref o), (2, .ref (gm.2.2 0)), (1, .ref (xo_a g)), (0, .ref b)]) hx hb dW_271 hl (by decide) rfl (fun ls hl => ?_)
  refine lv_aload_n hx hb dW_273 rfl (lv_at hl 4 rfl) ?_
  refine mm_VT (cM_th l gm S1 ham) rfl hT9 kL_M_thrown hS9 hK2 hP2 ⟨Nat.le_of_ble_eq_true rfl, Nat.le_of_ble_eq_true rfl⟩ hl.1 rfl (Nat.le_of_ble_eq_true rfl) hf dW_274 hSS hA2 (fun v9 S9 H locs hR9 hP2 hSS hz hk3 => ?_)
  obtain ⟨rfl, e9⟩ := hR9
  rw [e9] at hP2
  have hP1 := xq_kept hC hP1 hk3
  refine lv_iload hx hb dW_277 (lv_at hl 1 rfl) ?_
  refine lv_icmp_eq (tgt := 284) hx hb dW_279 (by decide) (fun hc1 => ?_) (fun hc1 => absurd hkk.symm hc1)
  refine lv_iload hx hb dW_284 (lv_at hl 1 rfl) ?_
  refine lv_if_ne (tgt := 301) hx hb dW_286 (by decide) (fun hc2 => ?_) (fun hc2 => ?_)
  · refine lv_goto (tgt := 1204) hx hb dW_301 (by decide) ?_
    exact K _ _ _ _ _ _ _ _ hP1 hP2 hSS hInv (lv_sub hl [2, 3, 4, 5, 6] rfl)
  refine lv_aload_n hx hb dW_289 rfl (lv_at hl 3 rfl) ?_
  refine lv_iconst (v := 0) hx hb dW_290 (by decide) ?_
  refine va_lald hx hb hK1 hP1 3 0 rfl rfl (by unfold vp_in; decide) dW_291 ?_
  refine lv_iload hx hb dW_292 (lv_at hl 0 rfl) ?_
  refine jv_i2l hx hb dW_294 ?_
  refine jv_lceq (tgt := 301) hx hb dW_295 dW_296 (by decide) (fun hc4 => ?_) (fun hc4 => absurd (hzz hc2) hc4)
  refine lv_goto (tgt := 1204) hx hb dW_301 (by decide) ?_
  exact K _ _ _ _ _ _ _ _ hP1 hP2 hSS hInv (lv_sub hl [2, 3, 4, 5, 6] rfl)
set_option maxHeartbeats 4000000 in
set_option maxRecDepth 100000 in
theorem lw_best {p : Program} {e : Env} {s : State} {m : MethodId} {below : List Frame} {meth : Method} {c : Code} {b L : Nat} {xs : Nat → Int32} {g : xo_E} {gm : mo_E} {o : Nat} {T : Nat → Int64} {dk : Nat → Int32} {dn : Int32} {f : Nat → Int64} {S : mS} {H : Heap} {locs : List Loc} {cells slots i : Nat} {ls : Array Slot} {Q : State → Prop} (l : Launch) (C0 : lw_At p s m meth c b L xs) (hL : L ≤ 2048) (hi : i + 4 ≤ L) (hC : LC s g gm o) (hP1 : va_P g.1 cl_X (xq_W g o T dk dn f) H) (hP2 : va_P gm.1 cl_X (mo_W gm S) H) (hSS : va_S (nw_A s) s.heap H locs) (hl : lv_has ls 8 [(4, .int (nI i)), (3, .ref o), (2, .ref (gm.2.2 0)), (1, .ref (xo_a g)), (0, .ref b)]) (hf : cells + 1 ≤ room_1.cells ∧ slots + 6 ≤ room_1.slots) (res : mu_R) (dd : Nat) (hdd : dd ≤ 9) (hM : mu_M l yA_best bA_best 7 (some .long) dd (.ref (xo_a g) :: [.long (lw_x xs i)]) g (xo_F g T dk dn) res) (hE : ∀ E, res = .inl E → E = ex_IA) (hV : ∀ v T1 k1 n1, res = .inr (v, T1, k1, n1) → ∃ z : Int64, v = some (.long z)) (dm : Nat) (hdm : dm ≤ 9) (R1 : mm_T) (hMM : mm_M l yM_best bM_best 10 (some .long) dm (.ref (gm.2.2 0) :: [.long (lw_x xs i)]) gm S R1) (tie : ∀ (k : Int32) (z : Int64) (T1 : Nat → Int64) (dk1 : Nat → Int32) (dn1 : Int32) (v : Option Value) (S1 : mS), ((res = .inl ex_IA ∧ k = 1 ∧ T1 = T ∧ dk1 = dk ∧ dn1 = dn) ∨ (∃ v : Int64, res = .inr (some (.long v), T1, dk1, dn1) ∧ k = 0 ∧ z = v)) → R1 v S1 → ∃ y : Int64, v = some (.long y) ∧ k = S1.1 ∧ (k = 0 → z = y) ∧ Inv T1 dk1 dn1 S1) (K : ∀ (T1 : Nat → Int64) (dk1 : Nat → Int32) (dn1 : Int32) (f1 : Nat → Int64) (S1 : mS) (H1 : Heap) (locs1 : List Loc) (ls1 : Array Slot), va_P g.1 cl_X (xq_W g o T1 dk1 dn1 f1) H1 → va_P gm.1 cl_X (mo_W gm S1) H1 → va_S (nw_A s) s.heap H1 locs1 → Inv T1 dk1 dn1 S1 → lv_has ls1 8 [(4, .int (nI i)), (3, .ref o), (2, .ref (gm.2.2 0)), (1, .ref (xo_a g)), (0, .ref b)] → W p l e room_1 s m #[Value.ref b] below meth c H1 locs1 (cells + 1) (slots + 6) Q (F0 m 1204 ls1 [])) : W p l e room_1 s m #[Value.ref b] below meth c H locs cells slots Q (F0 m 304 ls []) := by
  obtain ⟨hx, hb, hr, hml, hown, hts, hX, hbl, hlk, -⟩ := id C0
  have hG : ∀ w ∈ gw, w.before #[Value.ref b] s = true := fun w hw => hts w (List.mem_filter.mp hw).1
  have hS9 : CallFix p m c code 8 s #[Value.ref b] gw "HandTablesLaw" := ⟨hx, hb, hml, hown, hG⟩
  have hT9 : ∀ w ∈ gw, w ∈ gw := fun _ h => h
  obtain ⟨hap, ham, ho, hdis, hA1, hA2, hK1, hK2, hTa, hEx, hNc⟩ := id hC
  have hbA : ¬ nw_A s b := fun z => absurd hbl (Nat.not_lt.mpr z)
  refine lv_aload_n hx hb dW_304 rfl (lv_at hl 3 rfl) ?_
  refine lv_aload_n hx hb dW_305 rfl (lv_at hl 4 rfl) ?_
  refine lv_iload hx hb dW_306 (lv_at hl 0 rfl) ?_
  refine lv_iconst (v := 1) hx hb dW_308 (by decide) ?_
  refine lv_iadd hx hb dW_309 ?_
  refine va_sld hx hb hX hbl hbA hSS (lw_in1 hi hL) dW_310 ?_
  refine jv_i2l hx hb dW_311 ?_
  refine lv_bipush (v := 32) hx hb dW_312 (by decide) ?_
  refine jv_lshl hx hb dW_314 ?_
  refine lv_aload_n hx hb dW_315 rfl (lv_at hl 4 rfl) ?_
  refine lv_iload hx hb dW_316 (lv_at hl 0 rfl) ?_
  refine lv_iconst (v := 2) hx hb dW_318 (by decide) ?_
  refine lv_iadd hx hb dW_319 ?_
  refine va_sld hx hb hX hbl hbA hSS (lw_in2 hi hL) dW_320 ?_
  refine jv_i2l hx hb dW_321 ?_
  refine lv_ldc2 (v := 4294967295) hx hb hown (hG _ (gw_mem 656 rfl rfl)) dW_322 ?_
  refine lv_land hx hb dW_325 ?_
  refine lv_lor hx hb dW_326 ?_
  refine lv_aload_n hx hb dW_327 rfl (lv_at hl 1 rfl) ?_
  refine wq_S (cL_best l g o T dk dn f (lw_x xs i) hap ho res dd hdd hM hE hV) rfl hT9 kW_best hS9 (lq_of hC hP1 hSS) ⟨Nat.le_of_ble_eq_true rfl, Nat.le_of_ble_eq_true rfl⟩ hl.1 rfl (Nat.le_of_ble_eq_true rfl) hf dW_328 hSS hA1 (fun k f1 T1 dk1 dn1 H locs hR0 hP1 hSS hz hk => ?_)
  have hP2 := mo_kept hC hP2 hk
  refine lv_istore (lv' := [(5, .int k), (4, .int (nI i)), (3, .ref o), (2, .ref (gm.2.2 0)), (1, .ref (xo_a g)), (0, .ref b)]) hx hb dW_331 hl (by decide) rfl (fun ls hl => ?_)
  refine lv_aload_n hx hb dW_333 rfl (lv_at hl 3 rfl) ?_
  refine lv_aload_n hx hb dW_334 rfl (lv_at hl 5 rfl) ?_
  refine lv_iload hx hb dW_335 (lv_at hl 1 rfl) ?_
  refine lv_iconst (v := 1) hx hb dW_337 (by decide) ?_
  refine lv_iadd hx hb dW_338 ?_
  refine va_sld hx hb hX hbl hbA hSS (lw_in1 hi hL) dW_339 ?_
  refine jv_i2l hx hb dW_340 ?_
  refine lv_bipush (v := 32) hx hb dW_341 (by decide) ?_
  refine jv_lshl hx hb dW_343 ?_
  refine lv_aload_n hx hb dW_344 rfl (lv_at hl 5 rfl) ?_
  refine lv_iload hx hb dW_345 (lv_at hl 1 rfl) ?_
  refine lv_iconst (v := 2) hx hb dW_347 (by decide) ?_
  refine lv_iadd hx hb dW_348 ?_
  refine va_sld hx hb hX hbl hbA hSS (lw_in2 hi hL) dW_349 ?_
  refine jv_i2l hx hb dW_350 ?_
  refine lv_ldc2 (v := 4294967295) hx hb hown (hG _ (gw_mem 656 rfl rfl)) dW_351 ?_
  refine lv_land hx hb dW_354 ?_
  refine lv_lor hx hb dW_355 ?_
  refine mm_VT hMM rfl hT9 kL_M_best hS9 hK2 hP2 ⟨Nat.le_trans (show dm + 1 ≤ 10 by omega) (Nat.le_of_ble_eq_true rfl), Nat.le_trans (show _ ≤ 1000 by omega) (Nat.le_of_ble_eq_true rfl)⟩ hl.1 rfl (Nat.le_of_ble_eq_true rfl) hf dW_356 hSS hA2 (fun v S1 H locs hR1 hP2 hSS hz hk2 => ?_)
  have hP1 := xq_kept hC hP1 hk2
  obtain ⟨y, rfl, hkk, hzz, hInv⟩ := tie k (f1 0) T1 dk1 dn1 v S1 hR0 hR1
  refine lv_lstore (lv' := [(6, .long y), (5, .int k), (4, .int (nI i)), (3, .ref o), (2, .ref (gm.2.2 0)), (1, .ref (xo_a g)), (0, .ref b)]) hx hb dW_359 hl (by decide) rfl (fun ls hl => ?_)
  refine lv_aload_n hx hb dW_361 rfl (lv_at hl 4 rfl) ?_
  refine mm_VT (cM_th l gm S1 ham) rfl hT9 kL_M_thrown hS9 hK2 hP2 ⟨Nat.le_of_ble_eq_true rfl, Nat.le_of_ble_eq_true rfl⟩ hl.1 rfl (Nat.le_of_ble_eq_true rfl) hf dW_362 hSS hA2 (fun v9 S9 H locs hR9 hP2 hSS hz hk3 => ?_)
  obtain ⟨rfl, e9⟩ := hR9
  rw [e9] at hP2
  have hP1 := xq_kept hC hP1 hk3
  refine lv_iload hx hb dW_365 (lv_at hl 1 rfl) ?_
  refine lv_icmp_eq (tgt := 372) hx hb dW_367 (by decide) (fun hc1 => ?_) (fun hc1 => absurd hkk.symm hc1)
  refine lv_iload hx hb dW_372 (lv_at hl 1 rfl) ?_
  refine lv_if_ne (tgt := 388) hx hb dW_374 (by decide) (fun hc2 => ?_) (fun hc2 => ?_)
  · refine lv_goto (tgt := 1204) hx hb dW_388 (by decide) ?_
    exact K _ _ _ _ _ _ _ _ hP1 hP2 hSS hInv (lv_sub hl [2, 3, 4, 5, 6] rfl)
  refine lv_aload_n hx hb dW_377 rfl (lv_at hl 3 rfl) ?_
  refine lv_iconst (v := 0) hx hb dW_378 (by decide) ?_
  refine va_lald hx hb hK1 hP1 3 0 rfl rfl (by unfold vp_in; decide) dW_379 ?_
  refine lv_lload hx hb dW_380 (lv_at hl 0 rfl) ?_
  refine jv_lceq (tgt := 388) hx hb dW_382 dW_383 (by decide) (fun hc4 => ?_) (fun hc4 => absurd (hzz hc2) hc4)
  refine lv_goto (tgt := 1204) hx hb dW_388 (by decide) ?_
  exact K _ _ _ _ _ _ _ _ hP1 hP2 hSS hInv (lv_sub hl [2, 3, 4, 5, 6] rfl)
set_option maxHeartbeats 4000000 in
set_option maxRecDepth 100000 in
theorem lw_worth {p : Program} {e : Env} {s : State} {m : MethodId} {below : List Frame} {meth : Method} {c : Code} {b L : Nat} {xs : Nat → Int32} {g : xo_E} {gm : mo_E} {o : Nat} {T : Nat → Int64} {dk : Nat → Int32} {dn : Int32} {f : Nat → Int64} {S : mS} {H : Heap} {locs : List Loc} {cells slots i : Nat} {ls : Array Slot} {Q : State → Prop} (l : Launch) (C0 : lw_At p s m meth c b L xs) (hL : L ≤ 2048) (hi : i + 4 ≤ L) (hC : LC s g gm o) (hP1 : va_P g.1 cl_X (xq_W g o T dk dn f) H) (hP2 : va_P gm.1 cl_X (mo_W gm S) H) (hSS : va_S (nw_A s) s.heap H locs) (hl : lv_has ls 8 [(4, .int (nI i)), (3, .ref o), (2, .ref (gm.2.2 0)), (1, .ref (xo_a g)), (0, .ref b)]) (hf : cells + 1 ≤ room_1.cells ∧ slots + 6 ≤ room_1.slots) (res : mu_R) (dd : Nat) (hdd : dd ≤ 9) (hM : mu_M l yA_worth bA_worth 3 (some .int) dd (.ref (xo_a g) :: [.int (lw_j xs i 1)]) g (xo_F g T dk dn) res) (hE : ∀ E, res = .inl E → E = ex_IA) (hV : ∀ v T1 k1 n1, res = .inr (v, T1, k1, n1) → ∃ z : Int32, v = some (.int z)) (dm : Nat) (hdm : dm ≤ 9) (R1 : mm_T) (hMM : mm_M l yM_worth bM_worth 8 (some .int) dm (.ref (gm.2.2 0) :: [.int (lw_j xs i 1)]) gm S R1) (tie : ∀ (k : Int32) (z : Int64) (T1 : Nat → Int64) (dk1 : Nat → Int32) (dn1 : Int32) (v : Option Value) (S1 : mS), ((res = .inl ex_IA ∧ k = 1 ∧ T1 = T ∧ dk1 = dk ∧ dn1 = dn) ∨ (∃ v : Int32, res = .inr (some (.int v), T1, dk1, dn1) ∧ k = 0 ∧ z = v.toInt64)) → R1 v S1 → ∃ y : Int32, v = some (.int y) ∧ k = S1.1 ∧ (k = 0 → z = y.toInt64) ∧ Inv T1 dk1 dn1 S1) (K : ∀ (T1 : Nat → Int64) (dk1 : Nat → Int32) (dn1 : Int32) (f1 : Nat → Int64) (S1 : mS) (H1 : Heap) (locs1 : List Loc) (ls1 : Array Slot), va_P g.1 cl_X (xq_W g o T1 dk1 dn1 f1) H1 → va_P gm.1 cl_X (mo_W gm S1) H1 → va_S (nw_A s) s.heap H1 locs1 → Inv T1 dk1 dn1 S1 → lv_has ls1 8 [(4, .int (nI i)), (3, .ref o), (2, .ref (gm.2.2 0)), (1, .ref (xo_a g)), (0, .ref b)] → W p l e room_1 s m #[Value.ref b] below meth c H1 locs1 (cells + 1) (slots + 6) Q (F0 m 1204 ls1 [])) : W p l e room_1 s m #[Value.ref b] below meth c H locs cells slots Q (F0 m 391 ls []) := by
  obtain ⟨hx, hb, hr, hml, hown, hts, hX, hbl, hlk, -⟩ := id C0
  have hG : ∀ w ∈ gw, w.before #[Value.ref b] s = true := fun w hw => hts w (List.mem_filter.mp hw).1
  have hS9 : CallFix p m c code 8 s #[Value.ref b] gw "HandTablesLaw" := ⟨hx, hb, hml, hown, hG⟩
  have hT9 : ∀ w ∈ gw, w ∈ gw := fun _ h => h
  obtain ⟨hap, ham, ho, hdis, hA1, hA2, hK1, hK2, hTa, hEx, hNc⟩ := id hC
  have hbA : ¬ nw_A s b := fun z => absurd hbl (Nat.not_lt.mpr z)
  refine lv_aload_n hx hb dW_391 rfl (lv_at hl 3 rfl) ?_
  refine lv_aload_n hx hb dW_392 rfl (lv_at hl 4 rfl) ?_
  refine lv_iload hx hb dW_393 (lv_at hl 0 rfl) ?_
  refine lv_iconst (v := 1) hx hb dW_395 (by decide) ?_
  refine lv_iadd hx hb dW_396 ?_
  refine va_sld hx hb hX hbl hbA hSS (lw_in1 hi hL) dW_397 ?_
  refine lv_aload_n hx hb dW_398 rfl (lv_at hl 1 rfl) ?_
  refine wq_S (cL_worth l g o T dk dn f (lw_j xs i 1) hap ho res dd hdd hM hE hV) rfl hT9 kW_worth hS9 (lq_of hC hP1 hSS) ⟨Nat.le_of_ble_eq_true rfl, Nat.le_of_ble_eq_true rfl⟩ hl.1 rfl (Nat.le_of_ble_eq_true rfl) hf dW_399 hSS hA1 (fun k f1 T1 dk1 dn1 H locs hR0 hP1 hSS hz hk => ?_)
  have hP2 := mo_kept hC hP2 hk
  refine lv_istore (lv' := [(5, .int k), (4, .int (nI i)), (3, .ref o), (2, .ref (gm.2.2 0)), (1, .ref (xo_a g)), (0, .ref b)]) hx hb dW_402 hl (by decide) rfl (fun ls hl => ?_)
  refine lv_aload_n hx hb dW_404 rfl (lv_at hl 3 rfl) ?_
  refine lv_aload_n hx hb dW_405 rfl (lv_at hl 5 rfl) ?_
  refine lv_iload hx hb dW_406 (lv_at hl 1 rfl) ?_
  refine lv_iconst (v := 1) hx hb dW_408 (by decide) ?_
  refine lv_iadd hx hb dW_409 ?_
  refine va_sld hx hb hX hbl hbA hSS (lw_in1 hi hL) dW_410 ?_
  refine mm_VT hMM rfl hT9 kL_M_worth hS9 hK2 hP2 ⟨Nat.le_trans (show dm + 1 ≤ 10 by omega) (Nat.le_of_ble_eq_true rfl), Nat.le_trans (show _ ≤ 1000 by omega) (Nat.le_of_ble_eq_true rfl)⟩ hl.1 rfl (Nat.le_of_ble_eq_true rfl) hf dW_411 hSS hA2 (fun v S1 H locs hR1 hP2 hSS hz hk2 => ?_)
  have hP1 := xq_kept hC hP1 hk2
  obtain ⟨y, rfl, hkk, hzz, hInv⟩ := tie k (f1 0) T1 dk1 dn1 v S1 hR0 hR1
  refine lv_istore (lv' := [(6, .int y), (5, .int k), (4, .int (nI i)), (3, .ref o), (2, .ref (gm.2.2 0)), (1, .ref (xo_a g)), (0, .ref b)]) hx hb dW_414 hl (by decide) rfl (fun ls hl => ?_)
  refine lv_aload_n hx hb dW_416 rfl (lv_at hl 4 rfl) ?_
  refine mm_VT (cM_th l gm S1 ham) rfl hT9 kL_M_thrown hS9 hK2 hP2 ⟨Nat.le_of_ble_eq_true rfl, Nat.le_of_ble_eq_true rfl⟩ hl.1 rfl (Nat.le_of_ble_eq_true rfl) hf dW_417 hSS hA2 (fun v9 S9 H locs hR9 hP2 hSS hz hk3 => ?_)
  obtain ⟨rfl, e9⟩ := hR9
  rw [e9] at hP2
  have hP1 := xq_kept hC hP1 hk3
  refine lv_iload hx hb dW_420 (lv_at hl 1 rfl) ?_
  refine lv_icmp_eq (tgt := 427) hx hb dW_422 (by decide) (fun hc1 => ?_) (fun hc1 => absurd hkk.symm hc1)
  refine lv_iload hx hb dW_427 (lv_at hl 1 rfl) ?_
  refine lv_if_ne (tgt := 444) hx hb dW_429 (by decide) (fun hc2 => ?_) (fun hc2 => ?_)
  · refine lv_goto (tgt := 1204) hx hb dW_444 (by decide) ?_
    exact K _ _ _ _ _ _ _ _ hP1 hP2 hSS hInv (lv_sub hl [2, 3, 4, 5, 6] rfl)
  refine lv_aload_n hx hb dW_432 rfl (lv_at hl 3 rfl) ?_
  refine lv_iconst (v := 0) hx hb dW_433 (by decide) ?_
  refine va_lald hx hb hK1 hP1 3 0 rfl rfl (by unfold vp_in; decide) dW_434 ?_
  refine lv_iload hx hb dW_435 (lv_at hl 0 rfl) ?_
  refine jv_i2l hx hb dW_437 ?_
  refine jv_lceq (tgt := 444) hx hb dW_438 dW_439 (by decide) (fun hc4 => ?_) (fun hc4 => absurd (hzz hc2) hc4)
  refine lv_goto (tgt := 1204) hx hb dW_444 (by decide) ?_
  exact K _ _ _ _ _ _ _ _ hP1 hP2 hSS hInv (lv_sub hl [2, 3, 4, 5, 6] rfl)
set_option maxHeartbeats 4000000 in
set_option maxRecDepth 100000 in
theorem lw_sets {p : Program} {e : Env} {s : State} {m : MethodId} {below : List Frame} {meth : Method} {c : Code} {b L : Nat} {xs : Nat → Int32} {g : xo_E} {gm : mo_E} {o : Nat} {T : Nat → Int64} {dk : Nat → Int32} {dn : Int32} {f : Nat → Int64} {S : mS} {H : Heap} {locs : List Loc} {cells slots i : Nat} {ls : Array Slot} {Q : State → Prop} (l : Launch) (C0 : lw_At p s m meth c b L xs) (hL : L ≤ 2048) (hi : i + 4 ≤ L) (hC : LC s g gm o) (hP1 : va_P g.1 cl_X (xq_W g o T dk dn f) H) (hP2 : va_P gm.1 cl_X (mo_W gm S) H) (hSS : va_S (nw_A s) s.heap H locs) (hl : lv_has ls 8 [(4, .int (nI i)), (3, .ref o), (2, .ref (gm.2.2 0)), (1, .ref (xo_a g)), (0, .ref b)]) (hf : cells + 1 ≤ room_1.cells ∧ slots + 6 ≤ room_1.slots) (res : mu_R) (dd : Nat) (hdd : dd ≤ 9) (hM : mu_M l yA_sets bA_sets 2 (some .int) dd (.ref (xo_a g) :: [.int (lw_j xs i 1)]) g (xo_F g T dk dn) res) (hE : ∀ E, res = .inl E → E = ex_IA) (hV : ∀ v T1 k1 n1, res = .inr (v, T1, k1, n1) → ∃ z : Int32, v = some (.int z)) (dm : Nat) (hdm : dm ≤ 9) (R1 : mm_T) (hMM : mm_M l yM_sets bM_sets 3 (some .int) dm (.ref (gm.2.2 0) :: [.int (lw_j xs i 1)]) gm S R1) (tie : ∀ (k : Int32) (z : Int64) (T1 : Nat → Int64) (dk1 : Nat → Int32) (dn1 : Int32) (v : Option Value) (S1 : mS), ((res = .inl ex_IA ∧ k = 1 ∧ T1 = T ∧ dk1 = dk ∧ dn1 = dn) ∨ (∃ v : Int32, res = .inr (some (.int v), T1, dk1, dn1) ∧ k = 0 ∧ z = v.toInt64)) → R1 v S1 → ∃ y : Int32, v = some (.int y) ∧ k = S1.1 ∧ (k = 0 → z = y.toInt64) ∧ Inv T1 dk1 dn1 S1) (K : ∀ (T1 : Nat → Int64) (dk1 : Nat → Int32) (dn1 : Int32) (f1 : Nat → Int64) (S1 : mS) (H1 : Heap) (locs1 : List Loc) (ls1 : Array Slot), va_P g.1 cl_X (xq_W g o T1 dk1 dn1 f1) H1 → va_P gm.1 cl_X (mo_W gm S1) H1 → va_S (nw_A s) s.heap H1 locs1 → Inv T1 dk1 dn1 S1 → lv_has ls1 8 [(4, .int (nI i)), (3, .ref o), (2, .ref (gm.2.2 0)), (1, .ref (xo_a g)), (0, .ref b)] → W p l e room_1 s m #[Value.ref b] below meth c H1 locs1 (cells + 1) (slots + 6) Q (F0 m 1204 ls1 [])) : W p l e room_1 s m #[Value.ref b] below meth c H locs cells slots Q (F0 m 447 ls []) := by
  obtain ⟨hx, hb, hr, hml, hown, hts, hX, hbl, hlk, -⟩ := id C0
  have hG : ∀ w ∈ gw, w.before #[Value.ref b] s = true := fun w hw => hts w (List.mem_filter.mp hw).1
  have hS9 : CallFix p m c code 8 s #[Value.ref b] gw "HandTablesLaw" := ⟨hx, hb, hml, hown, hG⟩
  have hT9 : ∀ w ∈ gw, w ∈ gw := fun _ h => h
  obtain ⟨hap, ham, ho, hdis, hA1, hA2, hK1, hK2, hTa, hEx, hNc⟩ := id hC
  have hbA : ¬ nw_A s b := fun z => absurd hbl (Nat.not_lt.mpr z)
  refine lv_aload_n hx hb dW_447 rfl (lv_at hl 3 rfl) ?_
  refine lv_aload_n hx hb dW_448 rfl (lv_at hl 4 rfl) ?_
  refine lv_iload hx hb dW_449 (lv_at hl 0 rfl) ?_
  refine lv_iconst (v := 1) hx hb dW_451 (by decide) ?_
  refine lv_iadd hx hb dW_452 ?_
  refine va_sld hx hb hX hbl hbA hSS (lw_in1 hi hL) dW_453 ?_
  refine lv_aload_n hx hb dW_454 rfl (lv_at hl 1 rfl) ?_
  refine wq_S (cL_sets l g o T dk dn f (lw_j xs i 1) hap ho res dd hdd hM hE hV) rfl hT9 kW_sets hS9 (lq_of hC hP1 hSS) ⟨Nat.le_of_ble_eq_true rfl, Nat.le_of_ble_eq_true rfl⟩ hl.1 rfl (Nat.le_of_ble_eq_true rfl) hf dW_455 hSS hA1 (fun k f1 T1 dk1 dn1 H locs hR0 hP1 hSS hz hk => ?_)
  have hP2 := mo_kept hC hP2 hk
  refine lv_istore (lv' := [(5, .int k), (4, .int (nI i)), (3, .ref o), (2, .ref (gm.2.2 0)), (1, .ref (xo_a g)), (0, .ref b)]) hx hb dW_458 hl (by decide) rfl (fun ls hl => ?_)
  refine lv_aload_n hx hb dW_460 rfl (lv_at hl 3 rfl) ?_
  refine lv_aload_n hx hb dW_461 rfl (lv_at hl 5 rfl) ?_
  refine lv_iload hx hb dW_462 (lv_at hl 1 rfl) ?_
  refine lv_iconst (v := 1) hx hb dW_464 (by decide) ?_
  refine lv_iadd hx hb dW_465 ?_
  refine va_sld hx hb hX hbl hbA hSS (lw_in1 hi hL) dW_466 ?_
  refine mm_VT hMM rfl hT9 kL_M_sets hS9 hK2 hP2 ⟨Nat.le_trans (show dm + 1 ≤ 10 by omega) (Nat.le_of_ble_eq_true rfl), Nat.le_trans (show _ ≤ 1000 by omega) (Nat.le_of_ble_eq_true rfl)⟩ hl.1 rfl (Nat.le_of_ble_eq_true rfl) hf dW_467 hSS hA2 (fun v S1 H locs hR1 hP2 hSS hz hk2 => ?_)
  have hP1 := xq_kept hC hP1 hk2
  obtain ⟨y, rfl, hkk, hzz, hInv⟩ := tie k (f1 0) T1 dk1 dn1 v S1 hR0 hR1
  refine lv_istore (lv' := [(6, .int y), (5, .int k), (4, .int (nI i)), (3, .ref o), (2, .ref (gm.2.2 0)), (1, .ref (xo_a g)), (0, .ref b)]) hx hb dW_470 hl (by decide) rfl (fun ls hl => ?_)
  refine lv_aload_n hx hb dW_472 rfl (lv_at hl 4 rfl) ?_
  refine mm_VT (cM_th l gm S1 ham) rfl hT9 kL_M_thrown hS9 hK2 hP2 ⟨Nat.le_of_ble_eq_true rfl, Nat.le_of_ble_eq_true rfl⟩ hl.1 rfl (Nat.le_of_ble_eq_true rfl) hf dW_473 hSS hA2 (fun v9 S9 H locs hR9 hP2 hSS hz hk3 => ?_)
  obtain ⟨rfl, e9⟩ := hR9
  rw [e9] at hP2
  have hP1 := xq_kept hC hP1 hk3
  refine lv_iload hx hb dW_476 (lv_at hl 1 rfl) ?_
  refine lv_icmp_eq (tgt := 483) hx hb dW_478 (by decide) (fun hc1 => ?_) (fun hc1 => absurd hkk.symm hc1)
  refine lv_iload hx hb dW_483 (lv_at hl 1 rfl) ?_
  refine lv_if_ne (tgt := 500) hx hb dW_485 (by decide) (fun hc2 => ?_) (fun hc2 => ?_)
  · refine lv_goto (tgt := 1204) hx hb dW_500 (by decide) ?_
    exact K _ _ _ _ _ _ _ _ hP1 hP2 hSS hInv (lv_sub hl [2, 3, 4, 5, 6] rfl)
  refine lv_aload_n hx hb dW_488 rfl (lv_at hl 3 rfl) ?_
  refine lv_iconst (v := 0) hx hb dW_489 (by decide) ?_
  refine va_lald hx hb hK1 hP1 3 0 rfl rfl (by unfold vp_in; decide) dW_490 ?_
  refine lv_iload hx hb dW_491 (lv_at hl 0 rfl) ?_
  refine jv_i2l hx hb dW_493 ?_
  refine jv_lceq (tgt := 500) hx hb dW_494 dW_495 (by decide) (fun hc4 => ?_) (fun hc4 => absurd (hzz hc2) hc4)
  refine lv_goto (tgt := 1204) hx hb dW_500 (by decide) ?_
  exact K _ _ _ _ _ _ _ _ hP1 hP2 hSS hInv (lv_sub hl [2, 3, 4, 5, 6] rfl)
set_option maxHeartbeats 4000000 in
set_option maxRecDepth 100000 in
theorem lw_first {p : Program} {e : Env} {s : State} {m : MethodId} {below : List Frame} {meth : Method} {c : Code} {b L : Nat} {xs : Nat → Int32} {g : xo_E} {gm : mo_E} {o : Nat} {T : Nat → Int64} {dk : Nat → Int32} {dn : Int32} {f : Nat → Int64} {S : mS} {H : Heap} {locs : List Loc} {cells slots i : Nat} {ls : Array Slot} {Q : State → Prop} (l : Launch) (C0 : lw_At p s m meth c b L xs) (hL : L ≤ 2048) (hi : i + 4 ≤ L) (hC : LC s g gm o) (hP1 : va_P g.1 cl_X (xq_W g o T dk dn f) H) (hP2 : va_P gm.1 cl_X (mo_W gm S) H) (hSS : va_S (nw_A s) s.heap H locs) (hl : lv_has ls 8 [(4, .int (nI i)), (3, .ref o), (2, .ref (gm.2.2 0)), (1, .ref (xo_a g)), (0, .ref b)]) (hf : cells + 1 ≤ room_1.cells ∧ slots + 6 ≤ room_1.slots) (res : mu_R) (dd : Nat) (hdd : dd ≤ 9) (hM : mu_M l yA_first bA_first 2 (some .int) dd (.ref (xo_a g) :: [.int (lw_j xs i 1)]) g (xo_F g T dk dn) res) (hE : ∀ E, res = .inl E → E = ex_IA) (hV : ∀ v T1 k1 n1, res = .inr (v, T1, k1, n1) → ∃ z : Int32, v = some (.int z)) (dm : Nat) (hdm : dm ≤ 9) (R1 : mm_T) (hMM : mm_M l yM_first bM_first 2 (some .int) dm (.ref (gm.2.2 0) :: [.int (lw_j xs i 1)]) gm S R1) (tie : ∀ (k : Int32) (z : Int64) (T1 : Nat → Int64) (dk1 : Nat → Int32) (dn1 : Int32) (v : Option Value) (S1 : mS), ((res = .inl ex_IA ∧ k = 1 ∧ T1 = T ∧ dk1 = dk ∧ dn1 = dn) ∨ (∃ v : Int32, res = .inr (some (.int v), T1, dk1, dn1) ∧ k = 0 ∧ z = v.toInt64)) → R1 v S1 → ∃ y : Int32, v = some (.int y) ∧ k = S1.1 ∧ (k = 0 → z = y.toInt64) ∧ Inv T1 dk1 dn1 S1) (K : ∀ (T1 : Nat → Int64) (dk1 : Nat → Int32) (dn1 : Int32) (f1 : Nat → Int64) (S1 : mS) (H1 : Heap) (locs1 : List Loc) (ls1 : Array Slot), va_P g.1 cl_X (xq_W g o T1 dk1 dn1 f1) H1 → va_P gm.1 cl_X (mo_W gm S1) H1 → va_S (nw_A s) s.heap H1 locs1 → Inv T1 dk1 dn1 S1 → lv_has ls1 8 [(4, .int (nI i)), (3, .ref o), (2, .ref (gm.2.2 0)), (1, .ref (xo_a g)), (0, .ref b)] → W p l e room_1 s m #[Value.ref b] below meth c H1 locs1 (cells + 1) (slots + 6) Q (F0 m 1204 ls1 [])) : W p l e room_1 s m #[Value.ref b] below meth c H locs cells slots Q (F0 m 503 ls []) := by
  obtain ⟨hx, hb, hr, hml, hown, hts, hX, hbl, hlk, -⟩ := id C0
  have hG : ∀ w ∈ gw, w.before #[Value.ref b] s = true := fun w hw => hts w (List.mem_filter.mp hw).1
  have hS9 : CallFix p m c code 8 s #[Value.ref b] gw "HandTablesLaw" := ⟨hx, hb, hml, hown, hG⟩
  have hT9 : ∀ w ∈ gw, w ∈ gw := fun _ h => h
  obtain ⟨hap, ham, ho, hdis, hA1, hA2, hK1, hK2, hTa, hEx, hNc⟩ := id hC
  have hbA : ¬ nw_A s b := fun z => absurd hbl (Nat.not_lt.mpr z)
  refine lv_aload_n hx hb dW_503 rfl (lv_at hl 3 rfl) ?_
  refine lv_aload_n hx hb dW_504 rfl (lv_at hl 4 rfl) ?_
  refine lv_iload hx hb dW_505 (lv_at hl 0 rfl) ?_
  refine lv_iconst (v := 1) hx hb dW_507 (by decide) ?_
  refine lv_iadd hx hb dW_508 ?_
  refine va_sld hx hb hX hbl hbA hSS (lw_in1 hi hL) dW_509 ?_
  refine lv_aload_n hx hb dW_510 rfl (lv_at hl 1 rfl) ?_
  refine wq_S (cL_first l g o T dk dn f (lw_j xs i 1) hap ho res dd hdd hM hE hV) rfl hT9 kW_first hS9 (lq_of hC hP1 hSS) ⟨Nat.le_of_ble_eq_true rfl, Nat.le_of_ble_eq_true rfl⟩ hl.1 rfl (Nat.le_of_ble_eq_true rfl) hf dW_511 hSS hA1 (fun k f1 T1 dk1 dn1 H locs hR0 hP1 hSS hz hk => ?_)
  have hP2 := mo_kept hC hP2 hk
  refine lv_istore (lv' := [(5, .int k), (4, .int (nI i)), (3, .ref o), (2, .ref (gm.2.2 0)), (1, .ref (xo_a g)), (0, .ref b)]) hx hb dW_514 hl (by decide) rfl (fun ls hl => ?_)
  refine lv_aload_n hx hb dW_516 rfl (lv_at hl 3 rfl) ?_
  refine lv_aload_n hx hb dW_517 rfl (lv_at hl 5 rfl) ?_
  refine lv_iload hx hb dW_518 (lv_at hl 1 rfl) ?_
  refine lv_iconst (v := 1) hx hb dW_520 (by decide) ?_
  refine lv_iadd hx hb dW_521 ?_
  refine va_sld hx hb hX hbl hbA hSS (lw_in1 hi hL) dW_522 ?_
  refine mm_VT hMM rfl hT9 kL_M_first hS9 hK2 hP2 ⟨Nat.le_trans (show dm + 1 ≤ 10 by omega) (Nat.le_of_ble_eq_true rfl), Nat.le_trans (show _ ≤ 1000 by omega) (Nat.le_of_ble_eq_true rfl)⟩ hl.1 rfl (Nat.le_of_ble_eq_true rfl) hf dW_523 hSS hA2 (fun v S1 H locs hR1 hP2 hSS hz hk2 => ?_)
  have hP1 := xq_kept hC hP1 hk2
  obtain ⟨y, rfl, hkk, hzz, hInv⟩ := tie k (f1 0) T1 dk1 dn1 v S1 hR0 hR1
  refine lv_istore (lv' := [(6, .int y), (5, .int k), (4, .int (nI i)), (3, .ref o), (2, .ref (gm.2.2 0)), (1, .ref (xo_a g)), (0, .ref b)]) hx hb dW_526 hl (by decide) rfl (fun ls hl => ?_)
  refine lv_aload_n hx hb dW_528 rfl (lv_at hl 4 rfl) ?_
  refine mm_VT (cM_th l gm S1 ham) rfl hT9 kL_M_thrown hS9 hK2 hP2 ⟨Nat.le_of_ble_eq_true rfl, Nat.le_of_ble_eq_true rfl⟩ hl.1 rfl (Nat.le_of_ble_eq_true rfl) hf dW_529 hSS hA2 (fun v9 S9 H locs hR9 hP2 hSS hz hk3 => ?_)
  obtain ⟨rfl, e9⟩ := hR9
  rw [e9] at hP2
  have hP1 := xq_kept hC hP1 hk3
  refine lv_iload hx hb dW_532 (lv_at hl 1 rfl) ?_
  refine lv_icmp_eq (tgt := 539) hx hb dW_534 (by decide) (fun hc1 => ?_) (fun hc1 => absurd hkk.symm hc1)
  refine lv_iload hx hb dW_539 (lv_at hl 1 rfl) ?_
  refine lv_if_ne (tgt := 556) hx hb dW_541 (by decide) (fun hc2 => ?_) (fun hc2 => ?_)
  · refine lv_goto (tgt := 1204) hx hb dW_556 (by decide) ?_
    exact K _ _ _ _ _ _ _ _ hP1 hP2 hSS hInv (lv_sub hl [2, 3, 4, 5, 6] rfl)
  refine lv_aload_n hx hb dW_544 rfl (lv_at hl 3 rfl) ?_
  refine lv_iconst (v := 0) hx hb dW_545 (by decide) ?_
  refine va_lald hx hb hK1 hP1 3 0 rfl rfl (by unfold vp_in; decide) dW_546 ?_
  refine lv_iload hx hb dW_547 (lv_at hl 0 rfl) ?_
  refine jv_i2l hx hb dW_549 ?_
  refine jv_lceq (tgt := 556) hx hb dW_550 dW_551 (by decide) (fun hc4 => ?_) (fun hc4 => absurd (hzz hc2) hc4)
  refine lv_goto (tgt := 1204) hx hb dW_556 (by decide) ?_
  exact K _ _ _ _ _ _ _ _ hP1 hP2 hSS hInv (lv_sub hl [2, 3, 4, 5, 6] rfl)
set_option maxHeartbeats 4000000 in
set_option maxRecDepth 100000 in
theorem lw_seat {p : Program} {e : Env} {s : State} {m : MethodId} {below : List Frame} {meth : Method} {c : Code} {b L : Nat} {xs : Nat → Int32} {g : xo_E} {gm : mo_E} {o : Nat} {T : Nat → Int64} {dk : Nat → Int32} {dn : Int32} {f : Nat → Int64} {S : mS} {H : Heap} {locs : List Loc} {cells slots i : Nat} {ls : Array Slot} {Q : State → Prop} (l : Launch) (C0 : lw_At p s m meth c b L xs) (hL : L ≤ 2048) (hi : i + 4 ≤ L) (hC : LC s g gm o) (hP1 : va_P g.1 cl_X (xq_W g o T dk dn f) H) (hP2 : va_P gm.1 cl_X (mo_W gm S) H) (hSS : va_S (nw_A s) s.heap H locs) (hl : lv_has ls 8 [(4, .int (nI i)), (3, .ref o), (2, .ref (gm.2.2 0)), (1, .ref (xo_a g)), (0, .ref b)]) (hf : cells + 1 ≤ room_1.cells ∧ slots + 6 ≤ room_1.slots) (res : mu_R) (dd : Nat) (hdd : dd ≤ 9) (hM : mu_M l yA_seat bA_seat 8 (some .boolean) dd (.ref (xo_a g) :: [.int (lw_j xs i 1), .int (lw_j xs i 2), .int (lw_j xs i 3)]) g (xo_F g T dk dn) res) (hE : ∀ E, res = .inl E → E = ex_IO ∨ E = ex_IA) (hV : ∀ v T1 k1 n1, res = .inr (v, T1, k1, n1) → ∃ z : Int32, v = some (.int z)) (dm : Nat) (hdm : dm ≤ 9) (R1 : mm_T) (hMM : mm_M l yM_seat bM_seat 4 (some .boolean) dm (.ref (gm.2.2 0) :: [.int (lw_j xs i 1), .int (lw_j xs i 2), .int (lw_j xs i 3)]) gm S R1) (tie : ∀ (k : Int32) (z : Int64) (T1 : Nat → Int64) (dk1 : Nat → Int32) (dn1 : Int32) (v : Option Value) (S1 : mS), ((res = .inl ex_IO ∧ k = 1 ∧ T1 = T ∧ dk1 = dk ∧ dn1 = dn) ∨ (res = .inl ex_IA ∧ k = 2 ∧ T1 = T ∧ dk1 = dk ∧ dn1 = dn) ∨ (∃ v : Int32, res = .inr (some (.int v), T1, dk1, dn1) ∧ k = 0 ∧ z = if v = 0 then 0 else 1)) → R1 v S1 → ∃ y : Int32, v = some (.int y) ∧ k = S1.1 ∧ (k = 0 → z = if y = 0 then 0 else 1) ∧ Inv T1 dk1 dn1 S1) (K : ∀ (T1 : Nat → Int64) (dk1 : Nat → Int32) (dn1 : Int32) (f1 : Nat → Int64) (S1 : mS) (H1 : Heap) (locs1 : List Loc) (ls1 : Array Slot), va_P g.1 cl_X (xq_W g o T1 dk1 dn1 f1) H1 → va_P gm.1 cl_X (mo_W gm S1) H1 → va_S (nw_A s) s.heap H1 locs1 → Inv T1 dk1 dn1 S1 → lv_has ls1 8 [(4, .int (nI i)), (3, .ref o), (2, .ref (gm.2.2 0)), (1, .ref (xo_a g)), (0, .ref b)] → W p l e room_1 s m #[Value.ref b] below meth c H1 locs1 (cells + 1) (slots + 6) Q (F0 m 1204 ls1 [])) : W p l e room_1 s m #[Value.ref b] below meth c H locs cells slots Q (F0 m 559 ls []) := by
  obtain ⟨hx, hb, hr, hml, hown, hts, hX, hbl, hlk, -⟩ := id C0
  have hG : ∀ w ∈ gw, w.before #[Value.ref b] s = true := fun w hw => hts w (List.mem_filter.mp hw).1
  have hS9 : CallFix p m c code 8 s #[Value.ref b] gw "HandTablesLaw" := ⟨hx, hb, hml, hown, hG⟩
  have hT9 : ∀ w ∈ gw, w ∈ gw := fun _ h => h
  obtain ⟨hap, ham, ho, hdis, hA1, hA2, hK1, hK2, hTa, hEx, hNc⟩ := id hC
  have hbA : ¬ nw_A s b := fun z => absurd hbl (Nat.not_lt.mpr z)
  refine lv_aload_n hx hb dW_559 rfl (lv_at hl 3 rfl) ?_
  refine lv_aload_n hx hb dW_560 rfl (lv_at hl 4 rfl) ?_
  refine lv_iload hx hb dW_561 (lv_at hl 0 rfl) ?_
  refine lv_iconst (v := 1) hx hb dW_563 (by decide) ?_
  refine lv_iadd hx hb dW_564 ?_
  refine va_sld hx hb hX hbl hbA hSS (lw_in1 hi hL) dW_565 ?_
  refine lv_aload_n hx hb dW_566 rfl (lv_at hl 4 rfl) ?_
  refine lv_iload hx hb dW_567 (lv_at hl 0 rfl) ?_
  refine lv_iconst (v := 2) hx hb dW_569 (by decide) ?_
  refine lv_iadd hx hb dW_570 ?_
  refine va_sld hx hb hX hbl hbA hSS (lw_in2 hi hL) dW_571 ?_
  refine lv_aload_n hx hb dW_572 rfl (lv_at hl 4 rfl) ?_
  refine lv_iload hx hb dW_573 (lv_at hl 0 rfl) ?_
  refine lv_iconst (v := 3) hx hb dW_575 (by decide) ?_
  refine lv_iadd hx hb dW_576 ?_
  refine va_sld hx hb hX hbl hbA hSS (lw_in3 hi hL) dW_577 ?_
  refine lv_aload_n hx hb dW_578 rfl (lv_at hl 1 rfl) ?_
  refine wq_S (cL_seat l g o T dk dn f (lw_j xs i 1) (lw_j xs i 2) (lw_j xs i 3) hap ho res dd hdd hM hE hV) rfl hT9 kW_seat hS9 (lq_of hC hP1 hSS) ⟨Nat.le_of_ble_eq_true rfl, Nat.le_of_ble_eq_true rfl⟩ hl.1 rfl (Nat.le_of_ble_eq_true rfl) hf dW_579 hSS hA1 (fun k f1 T1 dk1 dn1 H locs hR0 hP1 hSS hz hk => ?_)
  have hP2 := mo_kept hC hP2 hk
  refine lv_istore (lv' := [(5, .int k), (4, .int (nI i)), (3, .ref o), (2, .ref (gm.2.2 0)), (1, .ref (xo_a g)), (0, .ref b)]) hx hb dW_582 hl (by decide) rfl (fun ls hl => ?_)
  refine lv_aload_n hx hb dW_584 rfl (lv_at hl 3 rfl) ?_
  refine lv_aload_n hx hb dW_585 rfl (lv_at hl 5 rfl) ?_
  refine lv_iload hx hb dW_586 (lv_at hl 1 rfl) ?_
  refine lv_iconst (v := 1) hx hb dW_588 (by decide) ?_
  refine lv_iadd hx hb dW_589 ?_
  refine va_sld hx hb hX hbl hbA hSS (lw_in1 hi hL) dW_590 ?_
  refine lv_aload_n hx hb dW_591 rfl (lv_at hl 5 rfl) ?_
  refine lv_iload hx hb dW_592 (lv_at hl 1 rfl) ?_
  refine lv_iconst (v := 2) hx hb dW_594 (by decide) ?_
  refine lv_iadd hx hb dW_595 ?_
  refine va_sld hx hb hX hbl hbA hSS (lw_in2 hi hL) dW_596 ?_
  refine lv_aload_n hx hb dW_597 rfl (lv_at hl 5 rfl) ?_
  refine lv_iload hx hb dW_598 (lv_at hl 1 rfl) ?_
  refine lv_iconst (v := 3) hx hb dW_600 (by decide) ?_
  refine lv_iadd hx hb dW_601 ?_
  refine va_sld hx hb hX hbl hbA hSS (lw_in3 hi hL) dW_602 ?_
  refine mm_VT hMM rfl hT9 kL_M_seat hS9 hK2 hP2 ⟨Nat.le_trans (show dm + 1 ≤ 10 by omega) (Nat.le_of_ble_eq_true rfl), Nat.le_trans (show _ ≤ 1000 by omega) (Nat.le_of_ble_eq_true rfl)⟩ hl.1 rfl (Nat.le_of_ble_eq_true rfl) hf dW_603 hSS hA2 (fun v S1 H locs hR1 hP2 hSS hz hk2 => ?_)
  have hP1 := xq_kept hC hP1 hk2
  obtain ⟨y, rfl, hkk, hzz, hInv⟩ := tie k (f1 0) T1 dk1 dn1 v S1 hR0 hR1
  refine lv_istore (lv' := [(6, .int y), (5, .int k), (4, .int (nI i)), (3, .ref o), (2, .ref (gm.2.2 0)), (1, .ref (xo_a g)), (0, .ref b)]) hx hb dW_606 hl (by decide) rfl (fun ls hl => ?_)
  refine lv_aload_n hx hb dW_608 rfl (lv_at hl 4 rfl) ?_
  refine mm_VT (cM_th l gm S1 ham) rfl hT9 kL_M_thrown hS9 hK2 hP2 ⟨Nat.le_of_ble_eq_true rfl, Nat.le_of_ble_eq_true rfl⟩ hl.1 rfl (Nat.le_of_ble_eq_true rfl) hf dW_609 hSS hA2 (fun v9 S9 H locs hR9 hP2 hSS hz hk3 => ?_)
  obtain ⟨rfl, e9⟩ := hR9
  rw [e9] at hP2
  have hP1 := xq_kept hC hP1 hk3
  refine lv_iload hx hb dW_612 (lv_at hl 1 rfl) ?_
  refine lv_icmp_eq (tgt := 619) hx hb dW_614 (by decide) (fun hc1 => ?_) (fun hc1 => absurd hkk.symm hc1)
  refine lv_iload hx hb dW_619 (lv_at hl 1 rfl) ?_
  refine lv_if_ne (tgt := 643) hx hb dW_621 (by decide) (fun hc2 => ?_) (fun hc2 => ?_)
  · refine lv_goto (tgt := 1204) hx hb dW_643 (by decide) ?_
    exact K _ _ _ _ _ _ _ _ hP1 hP2 hSS hInv (lv_sub hl [2, 3, 4, 5, 6] rfl)
  refine lv_aload_n hx hb dW_624 rfl (lv_at hl 3 rfl) ?_
  refine lv_iconst (v := 0) hx hb dW_625 (by decide) ?_
  refine va_lald hx hb hK1 hP1 3 0 rfl rfl (by unfold vp_in; decide) dW_626 ?_
  refine lv_iload hx hb dW_627 (lv_at hl 0 rfl) ?_
  refine lv_if_eq (tgt := 636) hx hb dW_629 (by decide) (fun hc3 => ?_) (fun hc3 => ?_)
  · refine lv_lconst (v := 0) hx hb dW_636 (by decide) ?_
    refine jv_lceq (tgt := 643) hx hb dW_637 dW_638 (by decide) (fun hc4 => ?_) (fun hc4 => absurd ((hzz hc2).trans (if_pos hc3)) hc4)
    refine lv_goto (tgt := 1204) hx hb dW_643 (by decide) ?_
    exact K _ _ _ _ _ _ _ _ hP1 hP2 hSS hInv (lv_sub hl [2, 3, 4, 5, 6] rfl)
  · refine lv_lconst (v := 1) hx hb dW_632 (by decide) ?_
    refine lv_goto (tgt := 637) hx hb dW_633 (by decide) ?_
    refine jv_lceq (tgt := 643) hx hb dW_637 dW_638 (by decide) (fun hc4 => ?_) (fun hc4 => absurd ((hzz hc2).trans (if_neg hc3)) hc4)
    refine lv_goto (tgt := 1204) hx hb dW_643 (by decide) ?_
    exact K _ _ _ _ _ _ _ _ hP1 hP2 hSS hInv (lv_sub hl [2, 3, 4, 5, 6] rfl)
set_option maxHeartbeats 4000000 in
set_option maxRecDepth 100000 in
theorem lw_leave {p : Program} {e : Env} {s : State} {m : MethodId} {below : List Frame} {meth : Method} {c : Code} {b L : Nat} {xs : Nat → Int32} {g : xo_E} {gm : mo_E} {o : Nat} {T : Nat → Int64} {dk : Nat → Int32} {dn : Int32} {f : Nat → Int64} {S : mS} {H : Heap} {locs : List Loc} {cells slots i : Nat} {ls : Array Slot} {Q : State → Prop} (l : Launch) (C0 : lw_At p s m meth c b L xs) (hL : L ≤ 2048) (hi : i + 4 ≤ L) (hC : LC s g gm o) (hP1 : va_P g.1 cl_X (xq_W g o T dk dn f) H) (hP2 : va_P gm.1 cl_X (mo_W gm S) H) (hSS : va_S (nw_A s) s.heap H locs) (hl : lv_has ls 8 [(4, .int (nI i)), (3, .ref o), (2, .ref (gm.2.2 0)), (1, .ref (xo_a g)), (0, .ref b)]) (hf : cells + 1 ≤ room_1.cells ∧ slots + 6 ≤ room_1.slots) (res : mu_R) (dd : Nat) (hdd : dd ≤ 9) (hM : mu_M l yA_leave bA_leave 3 (some .boolean) dd (.ref (xo_a g) :: [.int (lw_j xs i 1)]) g (xo_F g T dk dn) res) (hE : ∀ E, res = .inl E → E = ex_IO) (hV : ∀ v T1 k1 n1, res = .inr (v, T1, k1, n1) → ∃ z : Int32, v = some (.int z)) (dm : Nat) (hdm : dm ≤ 9) (R1 : mm_T) (hMM : mm_M l yM_leave bM_leave 2 (some .boolean) dm (.ref (gm.2.2 0) :: [.int (lw_j xs i 1)]) gm S R1) (tie : ∀ (k : Int32) (z : Int64) (T1 : Nat → Int64) (dk1 : Nat → Int32) (dn1 : Int32) (v : Option Value) (S1 : mS), ((res = .inl ex_IO ∧ k = 1 ∧ T1 = T ∧ dk1 = dk ∧ dn1 = dn) ∨ (∃ v : Int32, res = .inr (some (.int v), T1, dk1, dn1) ∧ k = 0 ∧ z = if v = 0 then 0 else 1)) → R1 v S1 → ∃ y : Int32, v = some (.int y) ∧ k = S1.1 ∧ (k = 0 → z = if y = 0 then 0 else 1) ∧ Inv T1 dk1 dn1 S1) (K : ∀ (T1 : Nat → Int64) (dk1 : Nat → Int32) (dn1 : Int32) (f1 : Nat → Int64) (S1 : mS) (H1 : Heap) (locs1 : List Loc) (ls1 : Array Slot), va_P g.1 cl_X (xq_W g o T1 dk1 dn1 f1) H1 → va_P gm.1 cl_X (mo_W gm S1) H1 → va_S (nw_A s) s.heap H1 locs1 → Inv T1 dk1 dn1 S1 → lv_has ls1 8 [(4, .int (nI i)), (3, .ref o), (2, .ref (gm.2.2 0)), (1, .ref (xo_a g)), (0, .ref b)] → W p l e room_1 s m #[Value.ref b] below meth c H1 locs1 (cells + 1) (slots + 6) Q (F0 m 1204 ls1 [])) : W p l e room_1 s m #[Value.ref b] below meth c H locs cells slots Q (F0 m 646 ls []) := by
  obtain ⟨hx, hb, hr, hml, hown, hts, hX, hbl, hlk, -⟩ := id C0
  have hG : ∀ w ∈ gw, w.before #[Value.ref b] s = true := fun w hw => hts w (List.mem_filter.mp hw).1
  have hS9 : CallFix p m c code 8 s #[Value.ref b] gw "HandTablesLaw" := ⟨hx, hb, hml, hown, hG⟩
  have hT9 : ∀ w ∈ gw, w ∈ gw := fun _ h => h
  obtain ⟨hap, ham, ho, hdis, hA1, hA2, hK1, hK2, hTa, hEx, hNc⟩ := id hC
  have hbA : ¬ nw_A s b := fun z => absurd hbl (Nat.not_lt.mpr z)
  refine lv_aload_n hx hb dW_646 rfl (lv_at hl 3 rfl) ?_
  refine lv_aload_n hx hb dW_647 rfl (lv_at hl 4 rfl) ?_
  refine lv_iload hx hb dW_648 (lv_at hl 0 rfl) ?_
  refine lv_iconst (v := 1) hx hb dW_650 (by decide) ?_
  refine lv_iadd hx hb dW_651 ?_
  refine va_sld hx hb hX hbl hbA hSS (lw_in1 hi hL) dW_652 ?_
  refine lv_aload_n hx hb dW_653 rfl (lv_at hl 1 rfl) ?_
  refine wq_S (cL_leave l g o T dk dn f (lw_j xs i 1) hap ho res dd hdd hM hE hV) rfl hT9 kW_leave hS9 (lq_of hC hP1 hSS) ⟨Nat.le_of_ble_eq_true rfl, Nat.le_of_ble_eq_true rfl⟩ hl.1 rfl (Nat.le_of_ble_eq_true rfl) hf dW_654 hSS hA1 (fun k f1 T1 dk1 dn1 H locs hR0 hP1 hSS hz hk => ?_)
  have hP2 := mo_kept hC hP2 hk
  refine lv_istore (lv' := [(5, .int k), (4, .int (nI i)), (3, .ref o), (2, .ref (gm.2.2 0)), (1, .ref (xo_a g)), (0, .ref b)]) hx hb dW_657 hl (by decide) rfl (fun ls hl => ?_)
  refine lv_aload_n hx hb dW_659 rfl (lv_at hl 3 rfl) ?_
  refine lv_aload_n hx hb dW_660 rfl (lv_at hl 5 rfl) ?_
  refine lv_iload hx hb dW_661 (lv_at hl 1 rfl) ?_
  refine lv_iconst (v := 1) hx hb dW_663 (by decide) ?_
  refine lv_iadd hx hb dW_664 ?_
  refine va_sld hx hb hX hbl hbA hSS (lw_in1 hi hL) dW_665 ?_
  refine mm_VT hMM rfl hT9 kL_M_leave hS9 hK2 hP2 ⟨Nat.le_trans (show dm + 1 ≤ 10 by omega) (Nat.le_of_ble_eq_true rfl), Nat.le_trans (show _ ≤ 1000 by omega) (Nat.le_of_ble_eq_true rfl)⟩ hl.1 rfl (Nat.le_of_ble_eq_true rfl) hf dW_666 hSS hA2 (fun v S1 H locs hR1 hP2 hSS hz hk2 => ?_)
  have hP1 := xq_kept hC hP1 hk2
  obtain ⟨y, rfl, hkk, hzz, hInv⟩ := tie k (f1 0) T1 dk1 dn1 v S1 hR0 hR1
  refine lv_istore (lv' := [(6, .int y), (5, .int k), (4, .int (nI i)), (3, .ref o), (2, .ref (gm.2.2 0)), (1, .ref (xo_a g)), (0, .ref b)]) hx hb dW_669 hl (by decide) rfl (fun ls hl => ?_)
  refine lv_aload_n hx hb dW_671 rfl (lv_at hl 4 rfl) ?_
  refine mm_VT (cM_th l gm S1 ham) rfl hT9 kL_M_thrown hS9 hK2 hP2 ⟨Nat.le_of_ble_eq_true rfl, Nat.le_of_ble_eq_true rfl⟩ hl.1 rfl (Nat.le_of_ble_eq_true rfl) hf dW_672 hSS hA2 (fun v9 S9 H locs hR9 hP2 hSS hz hk3 => ?_)
  obtain ⟨rfl, e9⟩ := hR9
  rw [e9] at hP2
  have hP1 := xq_kept hC hP1 hk3
  refine lv_iload hx hb dW_675 (lv_at hl 1 rfl) ?_
  refine lv_icmp_eq (tgt := 682) hx hb dW_677 (by decide) (fun hc1 => ?_) (fun hc1 => absurd hkk.symm hc1)
  refine lv_iload hx hb dW_682 (lv_at hl 1 rfl) ?_
  refine lv_if_ne (tgt := 706) hx hb dW_684 (by decide) (fun hc2 => ?_) (fun hc2 => ?_)
  · refine lv_goto (tgt := 1204) hx hb dW_706 (by decide) ?_
    exact K _ _ _ _ _ _ _ _ hP1 hP2 hSS hInv (lv_sub hl [2, 3, 4, 5, 6] rfl)
  refine lv_aload_n hx hb dW_687 rfl (lv_at hl 3 rfl) ?_
  refine lv_iconst (v := 0) hx hb dW_688 (by decide) ?_
  refine va_lald hx hb hK1 hP1 3 0 rfl rfl (by unfold vp_in; decide) dW_689 ?_
  refine lv_iload hx hb dW_690 (lv_at hl 0 rfl) ?_
  refine lv_if_eq (tgt := 699) hx hb dW_692 (by decide) (fun hc3 => ?_) (fun hc3 => ?_)
  · refine lv_lconst (v := 0) hx hb dW_699 (by decide) ?_
    refine jv_lceq (tgt := 706) hx hb dW_700 dW_701 (by decide) (fun hc4 => ?_) (fun hc4 => absurd ((hzz hc2).trans (if_pos hc3)) hc4)
    refine lv_goto (tgt := 1204) hx hb dW_706 (by decide) ?_
    exact K _ _ _ _ _ _ _ _ hP1 hP2 hSS hInv (lv_sub hl [2, 3, 4, 5, 6] rfl)
  · refine lv_lconst (v := 1) hx hb dW_695 (by decide) ?_
    refine lv_goto (tgt := 700) hx hb dW_696 (by decide) ?_
    refine jv_lceq (tgt := 706) hx hb dW_700 dW_701 (by decide) (fun hc4 => ?_) (fun hc4 => absurd ((hzz hc2).trans (if_neg hc3)) hc4)
    refine lv_goto (tgt := 1204) hx hb dW_706 (by decide) ?_
    exact K _ _ _ _ _ _ _ _ hP1 hP2 hSS hInv (lv_sub hl [2, 3, 4, 5, 6] rfl)
set_option maxHeartbeats 4000000 in
set_option maxRecDepth 100000 in
theorem lw_board {p : Program} {e : Env} {s : State} {m : MethodId} {below : List Frame} {meth : Method} {c : Code} {b L : Nat} {xs : Nat → Int32} {g : xo_E} {gm : mo_E} {o : Nat} {T : Nat → Int64} {dk : Nat → Int32} {dn : Int32} {f : Nat → Int64} {S : mS} {H : Heap} {locs : List Loc} {cells slots i : Nat} {ls : Array Slot} {Q : State → Prop} (l : Launch) (C0 : lw_At p s m meth c b L xs) (hL : L ≤ 2048) (hi : i + 4 ≤ L) (hC : LC s g gm o) (hP1 : va_P g.1 cl_X (xq_W g o T dk dn f) H) (hP2 : va_P gm.1 cl_X (mo_W gm S) H) (hSS : va_S (nw_A s) s.heap H locs) (hl : lv_has ls 8 [(4, .int (nI i)), (3, .ref o), (2, .ref (gm.2.2 0)), (1, .ref (xo_a g)), (0, .ref b)]) (hf : cells + 1 ≤ room_1.cells ∧ slots + 6 ≤ room_1.slots) (res : mu_R) (dd : Nat) (hdd : dd ≤ 9) (hM : mu_M l yA_board bA_board 4 (some .int) dd (.ref (xo_a g) :: [.int (lw_j xs i 1)]) g (xo_F g T dk dn) res) (hE : ∀ E, res = .inl E → E = ex_IA) (hV : ∀ v T1 k1 n1, res = .inr (v, T1, k1, n1) → ∃ z : Int32, v = some (.int z)) (dm : Nat) (hdm : dm ≤ 9) (R1 : mm_T) (hMM : mm_M l yM_board bM_board 2 (some .int) dm (.ref (gm.2.2 0) :: [.int (lw_j xs i 1)]) gm S R1) (tie : ∀ (k : Int32) (z : Int64) (T1 : Nat → Int64) (dk1 : Nat → Int32) (dn1 : Int32) (v : Option Value) (S1 : mS), ((res = .inl ex_IA ∧ k = 1 ∧ T1 = T ∧ dk1 = dk ∧ dn1 = dn) ∨ (∃ v : Int32, res = .inr (some (.int v), T1, dk1, dn1) ∧ k = 0 ∧ z = v.toInt64)) → R1 v S1 → ∃ y : Int32, v = some (.int y) ∧ k = S1.1 ∧ (k = 0 → z = y.toInt64) ∧ Inv T1 dk1 dn1 S1) (K : ∀ (T1 : Nat → Int64) (dk1 : Nat → Int32) (dn1 : Int32) (f1 : Nat → Int64) (S1 : mS) (H1 : Heap) (locs1 : List Loc) (ls1 : Array Slot), va_P g.1 cl_X (xq_W g o T1 dk1 dn1 f1) H1 → va_P gm.1 cl_X (mo_W gm S1) H1 → va_S (nw_A s) s.heap H1 locs1 → Inv T1 dk1 dn1 S1 → lv_has ls1 8 [(4, .int (nI i)), (3, .ref o), (2, .ref (gm.2.2 0)), (1, .ref (xo_a g)), (0, .ref b)] → W p l e room_1 s m #[Value.ref b] below meth c H1 locs1 (cells + 1) (slots + 6) Q (F0 m 1204 ls1 [])) : W p l e room_1 s m #[Value.ref b] below meth c H locs cells slots Q (F0 m 709 ls []) := by
  obtain ⟨hx, hb, hr, hml, hown, hts, hX, hbl, hlk, -⟩ := id C0
  have hG : ∀ w ∈ gw, w.before #[Value.ref b] s = true := fun w hw => hts w (List.mem_filter.mp hw).1
  have hS9 : CallFix p m c code 8 s #[Value.ref b] gw "HandTablesLaw" := ⟨hx, hb, hml, hown, hG⟩
  have hT9 : ∀ w ∈ gw, w ∈ gw := fun _ h => h
  obtain ⟨hap, ham, ho, hdis, hA1, hA2, hK1, hK2, hTa, hEx, hNc⟩ := id hC
  have hbA : ¬ nw_A s b := fun z => absurd hbl (Nat.not_lt.mpr z)
  refine lv_aload_n hx hb dW_709 rfl (lv_at hl 3 rfl) ?_
  refine lv_aload_n hx hb dW_710 rfl (lv_at hl 4 rfl) ?_
  refine lv_iload hx hb dW_711 (lv_at hl 0 rfl) ?_
  refine lv_iconst (v := 1) hx hb dW_713 (by decide) ?_
  refine lv_iadd hx hb dW_714 ?_
  refine va_sld hx hb hX hbl hbA hSS (lw_in1 hi hL) dW_715 ?_
  refine lv_aload_n hx hb dW_716 rfl (lv_at hl 1 rfl) ?_
  refine wq_S (cL_board l g o T dk dn f (lw_j xs i 1) hap ho res dd hdd hM hE hV) rfl hT9 kW_board hS9 (lq_of hC hP1 hSS) ⟨Nat.le_of_ble_eq_true rfl, Nat.le_of_ble_eq_true rfl⟩ hl.1 rfl (Nat.le_of_ble_eq_true rfl) hf dW_717 hSS hA1 (fun k f1 T1 dk1 dn1 H locs hR0 hP1 hSS hz hk => ?_)
  have hP2 := mo_kept hC hP2 hk
  refine lv_istore (lv' := [(5, .int k), (4, .int (nI i)), (3, .ref o), (2, .ref (gm.2.2 0)), (1, .ref (xo_a g)), (0, .ref b)]) hx hb dW_720 hl (by decide) rfl (fun ls hl => ?_)
  refine lv_aload_n hx hb dW_722 rfl (lv_at hl 3 rfl) ?_
  refine lv_aload_n hx hb dW_723 rfl (lv_at hl 5 rfl) ?_
  refine lv_iload hx hb dW_724 (lv_at hl 1 rfl) ?_
  refine lv_iconst (v := 1) hx hb dW_726 (by decide) ?_
  refine lv_iadd hx hb dW_727 ?_
  refine va_sld hx hb hX hbl hbA hSS (lw_in1 hi hL) dW_728 ?_
  refine mm_VT hMM rfl hT9 kL_M_board hS9 hK2 hP2 ⟨Nat.le_trans (show dm + 1 ≤ 10 by omega) (Nat.le_of_ble_eq_true rfl), Nat.le_trans (show _ ≤ 1000 by omega) (Nat.le_of_ble_eq_true rfl)⟩ hl.1 rfl (Nat.le_of_ble_eq_true rfl) hf dW_729 hSS hA2 (fun v S1 H locs hR1 hP2 hSS hz hk2 => ?_)
  have hP1 := xq_kept hC hP1 hk2
  obtain ⟨y, rfl, hkk, hzz, hInv⟩ := tie k (f1 0) T1 dk1 dn1 v S1 hR0 hR1
  refine lv_istore (lv' := [(6, .int y), (5, .int k), (4, .int (nI i)), (3, .ref o), (2, .ref (gm.2.2 0)), (1, .ref (xo_a g)), (0, .ref b)]) hx hb dW_732 hl (by decide) rfl (fun ls hl => ?_)
  refine lv_aload_n hx hb dW_734 rfl (lv_at hl 4 rfl) ?_
  refine mm_VT (cM_th l gm S1 ham) rfl hT9 kL_M_thrown hS9 hK2 hP2 ⟨Nat.le_of_ble_eq_true rfl, Nat.le_of_ble_eq_true rfl⟩ hl.1 rfl (Nat.le_of_ble_eq_true rfl) hf dW_735 hSS hA2 (fun v9 S9 H locs hR9 hP2 hSS hz hk3 => ?_)
  obtain ⟨rfl, e9⟩ := hR9
  rw [e9] at hP2
  have hP1 := xq_kept hC hP1 hk3
  refine lv_iload hx hb dW_738 (lv_at hl 1 rfl) ?_
  refine lv_icmp_eq (tgt := 745) hx hb dW_740 (by decide) (fun hc1 => ?_) (fun hc1 => absurd hkk.symm hc1)
  refine lv_iload hx hb dW_745 (lv_at hl 1 rfl) ?_
  refine lv_if_ne (tgt := 762) hx hb dW_747 (by decide) (fun hc2 => ?_) (fun hc2 => ?_)
  · refine lv_goto (tgt := 1204) hx hb dW_762 (by decide) ?_
    exact K _ _ _ _ _ _ _ _ hP1 hP2 hSS hInv (lv_sub hl [2, 3, 4, 5, 6] rfl)
  refine lv_aload_n hx hb dW_750 rfl (lv_at hl 3 rfl) ?_
  refine lv_iconst (v := 0) hx hb dW_751 (by decide) ?_
  refine va_lald hx hb hK1 hP1 3 0 rfl rfl (by unfold vp_in; decide) dW_752 ?_
  refine lv_iload hx hb dW_753 (lv_at hl 0 rfl) ?_
  refine jv_i2l hx hb dW_755 ?_
  refine jv_lceq (tgt := 762) hx hb dW_756 dW_757 (by decide) (fun hc4 => ?_) (fun hc4 => absurd (hzz hc2) hc4)
  refine lv_goto (tgt := 1204) hx hb dW_762 (by decide) ?_
  exact K _ _ _ _ _ _ _ _ hP1 hP2 hSS hInv (lv_sub hl [2, 3, 4, 5, 6] rfl)
set_option maxHeartbeats 4000000 in
set_option maxRecDepth 100000 in
theorem lw_cards {p : Program} {e : Env} {s : State} {m : MethodId} {below : List Frame} {meth : Method} {c : Code} {b L : Nat} {xs : Nat → Int32} {g : xo_E} {gm : mo_E} {o : Nat} {T : Nat → Int64} {dk : Nat → Int32} {dn : Int32} {f : Nat → Int64} {S : mS} {H : Heap} {locs : List Loc} {cells slots i : Nat} {ls : Array Slot} {Q : State → Prop} (l : Launch) (C0 : lw_At p s m meth c b L xs) (hL : L ≤ 2048) (hi : i + 4 ≤ L) (hC : LC s g gm o) (hP1 : va_P g.1 cl_X (xq_W g o T dk dn f) H) (hP2 : va_P gm.1 cl_X (mo_W gm S) H) (hSS : va_S (nw_A s) s.heap H locs) (hl : lv_has ls 8 [(4, .int (nI i)), (3, .ref o), (2, .ref (gm.2.2 0)), (1, .ref (xo_a g)), (0, .ref b)]) (hf : cells + 1 ≤ room_1.cells ∧ slots + 6 ≤ room_1.slots) (res : mu_R) (dd : Nat) (hdd : dd ≤ 9) (hM : mu_M l yA_cards bA_cards 2 (some .long) dd (.ref (xo_a g) :: [.int (lw_j xs i 1)]) g (xo_F g T dk dn) res) (hE : ∀ E, res = .inl E → E = ex_IO) (hV : ∀ v T1 k1 n1, res = .inr (v, T1, k1, n1) → ∃ z : Int64, v = some (.long z)) (dm : Nat) (hdm : dm ≤ 9) (R1 : mm_T) (hMM : mm_M l yM_cards bM_cards 5 (some .long) dm (.ref (gm.2.2 0) :: [.int (lw_j xs i 1)]) gm S R1) (tie : ∀ (k : Int32) (z : Int64) (T1 : Nat → Int64) (dk1 : Nat → Int32) (dn1 : Int32) (v : Option Value) (S1 : mS), ((res = .inl ex_IO ∧ k = 1 ∧ T1 = T ∧ dk1 = dk ∧ dn1 = dn) ∨ (∃ v : Int64, res = .inr (some (.long v), T1, dk1, dn1) ∧ k = 0 ∧ z = v)) → R1 v S1 → ∃ y : Int64, v = some (.long y) ∧ k = S1.1 ∧ (k = 0 → z = y) ∧ Inv T1 dk1 dn1 S1) (K : ∀ (T1 : Nat → Int64) (dk1 : Nat → Int32) (dn1 : Int32) (f1 : Nat → Int64) (S1 : mS) (H1 : Heap) (locs1 : List Loc) (ls1 : Array Slot), va_P g.1 cl_X (xq_W g o T1 dk1 dn1 f1) H1 → va_P gm.1 cl_X (mo_W gm S1) H1 → va_S (nw_A s) s.heap H1 locs1 → Inv T1 dk1 dn1 S1 → lv_has ls1 8 [(4, .int (nI i)), (3, .ref o), (2, .ref (gm.2.2 0)), (1, .ref (xo_a g)), (0, .ref b)] → W p l e room_1 s m #[Value.ref b] below meth c H1 locs1 (cells + 1) (slots + 6) Q (F0 m 1204 ls1 [])) : W p l e room_1 s m #[Value.ref b] below meth c H locs cells slots Q (F0 m 778 ls []) := by
  obtain ⟨hx, hb, hr, hml, hown, hts, hX, hbl, hlk, -⟩ := id C0
  have hG : ∀ w ∈ gw, w.before #[Value.ref b] s = true := fun w hw => hts w (List.mem_filter.mp hw).1
  have hS9 : CallFix p m c code 8 s #[Value.ref b] gw "HandTablesLaw" := ⟨hx, hb, hml, hown, hG⟩
  have hT9 : ∀ w ∈ gw, w ∈ gw := fun _ h => h
  obtain ⟨hap, ham, ho, hdis, hA1, hA2, hK1, hK2, hTa, hEx, hNc⟩ := id hC
  have hbA : ¬ nw_A s b := fun z => absurd hbl (Nat.not_lt.mpr z)
  refine lv_aload_n hx hb dW_778 rfl (lv_at hl 3 rfl) ?_
  refine lv_aload_n hx hb dW_779 rfl (lv_at hl 4 rfl) ?_
  refine lv_iload hx hb dW_780 (lv_at hl 0 rfl) ?_
  refine lv_iconst (v := 1) hx hb dW_782 (by decide) ?_
  refine lv_iadd hx hb dW_783 ?_
  refine va_sld hx hb hX hbl hbA hSS (lw_in1 hi hL) dW_784 ?_
  refine lv_aload_n hx hb dW_785 rfl (lv_at hl 1 rfl) ?_
  refine wq_S (cL_cards l g o T dk dn f (lw_j xs i 1) hap ho res dd hdd hM hE hV) rfl hT9 kW_cards hS9 (lq_of hC hP1 hSS) ⟨Nat.le_of_ble_eq_true rfl, Nat.le_of_ble_eq_true rfl⟩ hl.1 rfl (Nat.le_of_ble_eq_true rfl) hf dW_786 hSS hA1 (fun k f1 T1 dk1 dn1 H locs hR0 hP1 hSS hz hk => ?_)
  have hP2 := mo_kept hC hP2 hk
  refine lv_istore (lv' := [(5, .int k), (4, .int (nI i)), (3, .ref o), (2, .ref (gm.2.2 0)), (1, .ref (xo_a g)), (0, .ref b)]) hx hb dW_789 hl (by decide) rfl (fun ls hl => ?_)
  refine lv_aload_n hx hb dW_791 rfl (lv_at hl 3 rfl) ?_
  refine lv_aload_n hx hb dW_792 rfl (lv_at hl 5 rfl) ?_
  refine lv_iload hx hb dW_793 (lv_at hl 1 rfl) ?_
  refine lv_iconst (v := 1) hx hb dW_795 (by decide) ?_
  refine lv_iadd hx hb dW_796 ?_
  refine va_sld hx hb hX hbl hbA hSS (lw_in1 hi hL) dW_797 ?_
  refine mm_VT hMM rfl hT9 kL_M_cards hS9 hK2 hP2 ⟨Nat.le_trans (show dm + 1 ≤ 10 by omega) (Nat.le_of_ble_eq_true rfl), Nat.le_trans (show _ ≤ 1000 by omega) (Nat.le_of_ble_eq_true rfl)⟩ hl.1 rfl (Nat.le_of_ble_eq_true rfl) hf dW_798 hSS hA2 (fun v S1 H locs hR1 hP2 hSS hz hk2 => ?_)
  have hP1 := xq_kept hC hP1 hk2
  obtain ⟨y, rfl, hkk, hzz, hInv⟩ := tie k (f1 0) T1 dk1 dn1 v S1 hR0 hR1
  refine lv_lstore (lv' := [(6, .long y), (5, .int k), (4, .int (nI i)), (3, .ref o), (2, .ref (gm.2.2 0)), (1, .ref (xo_a g)), (0, .ref b)]) hx hb dW_801 hl (by decide) rfl (fun ls hl => ?_)
  refine lv_aload_n hx hb dW_803 rfl (lv_at hl 4 rfl) ?_
  refine mm_VT (cM_th l gm S1 ham) rfl hT9 kL_M_thrown hS9 hK2 hP2 ⟨Nat.le_of_ble_eq_true rfl, Nat.le_of_ble_eq_true rfl⟩ hl.1 rfl (Nat.le_of_ble_eq_true rfl) hf dW_804 hSS hA2 (fun v9 S9 H locs hR9 hP2 hSS hz hk3 => ?_)
  obtain ⟨rfl, e9⟩ := hR9
  rw [e9] at hP2
  have hP1 := xq_kept hC hP1 hk3
  refine lv_iload hx hb dW_807 (lv_at hl 1 rfl) ?_
  refine lv_icmp_eq (tgt := 814) hx hb dW_809 (by decide) (fun hc1 => ?_) (fun hc1 => absurd hkk.symm hc1)
  refine lv_iload hx hb dW_814 (lv_at hl 1 rfl) ?_
  refine lv_if_ne (tgt := 830) hx hb dW_816 (by decide) (fun hc2 => ?_) (fun hc2 => ?_)
  · refine lv_goto (tgt := 1204) hx hb dW_830 (by decide) ?_
    exact K _ _ _ _ _ _ _ _ hP1 hP2 hSS hInv (lv_sub hl [2, 3, 4, 5, 6] rfl)
  refine lv_aload_n hx hb dW_819 rfl (lv_at hl 3 rfl) ?_
  refine lv_iconst (v := 0) hx hb dW_820 (by decide) ?_
  refine va_lald hx hb hK1 hP1 3 0 rfl rfl (by unfold vp_in; decide) dW_821 ?_
  refine lv_lload hx hb dW_822 (lv_at hl 0 rfl) ?_
  refine jv_lceq (tgt := 830) hx hb dW_824 dW_825 (by decide) (fun hc4 => ?_) (fun hc4 => absurd (hzz hc2) hc4)
  refine lv_goto (tgt := 1204) hx hb dW_830 (by decide) ?_
  exact K _ _ _ _ _ _ _ _ hP1 hP2 hSS hInv (lv_sub hl [2, 3, 4, 5, 6] rfl)
set_option maxHeartbeats 4000000 in
set_option maxRecDepth 100000 in
theorem lw_hand {p : Program} {e : Env} {s : State} {m : MethodId} {below : List Frame} {meth : Method} {c : Code} {b L : Nat} {xs : Nat → Int32} {g : xo_E} {gm : mo_E} {o : Nat} {T : Nat → Int64} {dk : Nat → Int32} {dn : Int32} {f : Nat → Int64} {S : mS} {H : Heap} {locs : List Loc} {cells slots i : Nat} {ls : Array Slot} {Q : State → Prop} (l : Launch) (C0 : lw_At p s m meth c b L xs) (hL : L ≤ 2048) (hi : i + 4 ≤ L) (hC : LC s g gm o) (hP1 : va_P g.1 cl_X (xq_W g o T dk dn f) H) (hP2 : va_P gm.1 cl_X (mo_W gm S) H) (hSS : va_S (nw_A s) s.heap H locs) (hl : lv_has ls 8 [(4, .int (nI i)), (3, .ref o), (2, .ref (gm.2.2 0)), (1, .ref (xo_a g)), (0, .ref b)]) (hf : cells + 1 ≤ room_1.cells ∧ slots + 6 ≤ room_1.slots) (res : mu_R) (dd : Nat) (hdd : dd ≤ 9) (hM : mu_M l yA_hand bA_hand 2 (some .int) dd (.ref (xo_a g) :: [.int (lw_j xs i 1)]) g (xo_F g T dk dn) res) (hE : ∀ E, res = .inl E → E = ex_IO ∨ E = ex_IS) (hV : ∀ v T1 k1 n1, res = .inr (v, T1, k1, n1) → ∃ z : Int32, v = some (.int z)) (dm : Nat) (hdm : dm ≤ 9) (R1 : mm_T) (hMM : mm_M l yM_hand bM_hand 2 (some .int) dm (.ref (gm.2.2 0) :: [.int (lw_j xs i 1)]) gm S R1) (tie : ∀ (k : Int32) (z : Int64) (T1 : Nat → Int64) (dk1 : Nat → Int32) (dn1 : Int32) (v : Option Value) (S1 : mS), ((res = .inl ex_IO ∧ k = 1 ∧ T1 = T ∧ dk1 = dk ∧ dn1 = dn) ∨ (res = .inl ex_IS ∧ k = 2 ∧ T1 = T ∧ dk1 = dk ∧ dn1 = dn) ∨ (∃ v : Int32, res = .inr (some (.int v), T1, dk1, dn1) ∧ k = 0 ∧ z = v.toInt64)) → R1 v S1 → ∃ y : Int32, v = some (.int y) ∧ k = S1.1 ∧ (k = 0 → z = y.toInt64) ∧ Inv T1 dk1 dn1 S1) (K : ∀ (T1 : Nat → Int64) (dk1 : Nat → Int32) (dn1 : Int32) (f1 : Nat → Int64) (S1 : mS) (H1 : Heap) (locs1 : List Loc) (ls1 : Array Slot), va_P g.1 cl_X (xq_W g o T1 dk1 dn1 f1) H1 → va_P gm.1 cl_X (mo_W gm S1) H1 → va_S (nw_A s) s.heap H1 locs1 → Inv T1 dk1 dn1 S1 → lv_has ls1 8 [(4, .int (nI i)), (3, .ref o), (2, .ref (gm.2.2 0)), (1, .ref (xo_a g)), (0, .ref b)] → W p l e room_1 s m #[Value.ref b] below meth c H1 locs1 (cells + 1) (slots + 6) Q (F0 m 1204 ls1 [])) : W p l e room_1 s m #[Value.ref b] below meth c H locs cells slots Q (F0 m 833 ls []) := by
  obtain ⟨hx, hb, hr, hml, hown, hts, hX, hbl, hlk, -⟩ := id C0
  have hG : ∀ w ∈ gw, w.before #[Value.ref b] s = true := fun w hw => hts w (List.mem_filter.mp hw).1
  have hS9 : CallFix p m c code 8 s #[Value.ref b] gw "HandTablesLaw" := ⟨hx, hb, hml, hown, hG⟩
  have hT9 : ∀ w ∈ gw, w ∈ gw := fun _ h => h
  obtain ⟨hap, ham, ho, hdis, hA1, hA2, hK1, hK2, hTa, hEx, hNc⟩ := id hC
  have hbA : ¬ nw_A s b := fun z => absurd hbl (Nat.not_lt.mpr z)
  refine lv_aload_n hx hb dW_833 rfl (lv_at hl 3 rfl) ?_
  refine lv_aload_n hx hb dW_834 rfl (lv_at hl 4 rfl) ?_
  refine lv_iload hx hb dW_835 (lv_at hl 0 rfl) ?_
  refine lv_iconst (v := 1) hx hb dW_837 (by decide) ?_
  refine lv_iadd hx hb dW_838 ?_
  refine va_sld hx hb hX hbl hbA hSS (lw_in1 hi hL) dW_839 ?_
  refine lv_aload_n hx hb dW_840 rfl (lv_at hl 1 rfl) ?_
  refine wq_S (cL_hand l g o T dk dn f (lw_j xs i 1) hap ho res dd hdd hM hE hV) rfl hT9 kW_hand hS9 (lq_of hC hP1 hSS) ⟨Nat.le_of_ble_eq_true rfl, Nat.le_of_ble_eq_true rfl⟩ hl.1 rfl (Nat.le_of_ble_eq_true rfl) hf dW_841 hSS hA1 (fun k f1 T1 dk1 dn1 H locs hR0 hP1 hSS hz hk => ?_)
  have hP2 := mo_kept hC hP2 hk
  refine lv_istore (lv' := [(5, .int k), (4, .int (nI i)), (3, .ref o), (2, .ref (gm.2.2 0)), (1, .ref (xo_a g)), (0, .ref b)]) hx hb dW_844 hl (by decide) rfl (fun ls hl => ?_)
  refine lv_aload_n hx hb dW_846 rfl (lv_at hl 3 rfl) ?_
  refine lv_aload_n hx hb dW_847 rfl (lv_at hl 5 rfl) ?_
  refine lv_iload hx hb dW_848 (lv_at hl 1 rfl) ?_
  refine lv_iconst (v := 1) hx hb dW_850 (by decide) ?_
  refine lv_iadd hx hb dW_851 ?_
  refine va_sld hx hb hX hbl hbA hSS (lw_in1 hi hL) dW_852 ?_
  refine mm_VT hMM rfl hT9 kL_M_hand hS9 hK2 hP2 ⟨Nat.le_trans (show dm + 1 ≤ 10 by omega) (Nat.le_of_ble_eq_true rfl), Nat.le_trans (show _ ≤ 1000 by omega) (Nat.le_of_ble_eq_true rfl)⟩ hl.1 rfl (Nat.le_of_ble_eq_true rfl) hf dW_853 hSS hA2 (fun v S1 H locs hR1 hP2 hSS hz hk2 => ?_)
  have hP1 := xq_kept hC hP1 hk2
  obtain ⟨y, rfl, hkk, hzz, hInv⟩ := tie k (f1 0) T1 dk1 dn1 v S1 hR0 hR1
  refine lv_istore (lv' := [(6, .int y), (5, .int k), (4, .int (nI i)), (3, .ref o), (2, .ref (gm.2.2 0)), (1, .ref (xo_a g)), (0, .ref b)]) hx hb dW_856 hl (by decide) rfl (fun ls hl => ?_)
  refine lv_aload_n hx hb dW_858 rfl (lv_at hl 4 rfl) ?_
  refine mm_VT (cM_th l gm S1 ham) rfl hT9 kL_M_thrown hS9 hK2 hP2 ⟨Nat.le_of_ble_eq_true rfl, Nat.le_of_ble_eq_true rfl⟩ hl.1 rfl (Nat.le_of_ble_eq_true rfl) hf dW_859 hSS hA2 (fun v9 S9 H locs hR9 hP2 hSS hz hk3 => ?_)
  obtain ⟨rfl, e9⟩ := hR9
  rw [e9] at hP2
  have hP1 := xq_kept hC hP1 hk3
  refine lv_iload hx hb dW_862 (lv_at hl 1 rfl) ?_
  refine lv_icmp_eq (tgt := 869) hx hb dW_864 (by decide) (fun hc1 => ?_) (fun hc1 => absurd hkk.symm hc1)
  refine lv_iload hx hb dW_869 (lv_at hl 1 rfl) ?_
  refine lv_if_ne (tgt := 886) hx hb dW_871 (by decide) (fun hc2 => ?_) (fun hc2 => ?_)
  · refine lv_goto (tgt := 1204) hx hb dW_886 (by decide) ?_
    exact K _ _ _ _ _ _ _ _ hP1 hP2 hSS hInv (lv_sub hl [2, 3, 4, 5, 6] rfl)
  refine lv_aload_n hx hb dW_874 rfl (lv_at hl 3 rfl) ?_
  refine lv_iconst (v := 0) hx hb dW_875 (by decide) ?_
  refine va_lald hx hb hK1 hP1 3 0 rfl rfl (by unfold vp_in; decide) dW_876 ?_
  refine lv_iload hx hb dW_877 (lv_at hl 0 rfl) ?_
  refine jv_i2l hx hb dW_879 ?_
  refine jv_lceq (tgt := 886) hx hb dW_880 dW_881 (by decide) (fun hc4 => ?_) (fun hc4 => absurd (hzz hc2) hc4)
  refine lv_goto (tgt := 1204) hx hb dW_886 (by decide) ?_
  exact K _ _ _ _ _ _ _ _ hP1 hP2 hSS hInv (lv_sub hl [2, 3, 4, 5, 6] rfl)
set_option maxHeartbeats 4000000 in
set_option maxRecDepth 100000 in
theorem lw_ahead {p : Program} {e : Env} {s : State} {m : MethodId} {below : List Frame} {meth : Method} {c : Code} {b L : Nat} {xs : Nat → Int32} {g : xo_E} {gm : mo_E} {o : Nat} {T : Nat → Int64} {dk : Nat → Int32} {dn : Int32} {f : Nat → Int64} {S : mS} {H : Heap} {locs : List Loc} {cells slots i : Nat} {ls : Array Slot} {Q : State → Prop} (l : Launch) (C0 : lw_At p s m meth c b L xs) (hL : L ≤ 2048) (hi : i + 4 ≤ L) (hC : LC s g gm o) (hP1 : va_P g.1 cl_X (xq_W g o T dk dn f) H) (hP2 : va_P gm.1 cl_X (mo_W gm S) H) (hSS : va_S (nw_A s) s.heap H locs) (hl : lv_has ls 8 [(4, .int (nI i)), (3, .ref o), (2, .ref (gm.2.2 0)), (1, .ref (xo_a g)), (0, .ref b)]) (hf : cells + 1 ≤ room_1.cells ∧ slots + 6 ≤ room_1.slots) (res : mu_R) (dd : Nat) (hdd : dd ≤ 9) (hM : mu_M l yA_ahead bA_ahead 2 (some .int) dd (.ref (xo_a g) :: []) g (xo_F g T dk dn) res) (hE : ∀ E, res = .inl E → E = ex_IS) (hV : ∀ v T1 k1 n1, res = .inr (v, T1, k1, n1) → ∃ z : Int32, v = some (.int z)) (dm : Nat) (hdm : dm ≤ 9) (R1 : mm_T) (hMM : mm_M l yM_ahead bM_ahead 1 (some .int) dm (.ref (gm.2.2 0) :: []) gm S R1) (tie : ∀ (k : Int32) (z : Int64) (T1 : Nat → Int64) (dk1 : Nat → Int32) (dn1 : Int32) (v : Option Value) (S1 : mS), ((res = .inl ex_IS ∧ k = 1 ∧ T1 = T ∧ dk1 = dk ∧ dn1 = dn) ∨ (∃ v : Int32, res = .inr (some (.int v), T1, dk1, dn1) ∧ k = 0 ∧ z = v.toInt64)) → R1 v S1 → ∃ y : Int32, v = some (.int y) ∧ k = S1.1 ∧ (k = 0 → z = y.toInt64) ∧ Inv T1 dk1 dn1 S1) (K : ∀ (T1 : Nat → Int64) (dk1 : Nat → Int32) (dn1 : Int32) (f1 : Nat → Int64) (S1 : mS) (H1 : Heap) (locs1 : List Loc) (ls1 : Array Slot), va_P g.1 cl_X (xq_W g o T1 dk1 dn1 f1) H1 → va_P gm.1 cl_X (mo_W gm S1) H1 → va_S (nw_A s) s.heap H1 locs1 → Inv T1 dk1 dn1 S1 → lv_has ls1 8 [(4, .int (nI i)), (3, .ref o), (2, .ref (gm.2.2 0)), (1, .ref (xo_a g)), (0, .ref b)] → W p l e room_1 s m #[Value.ref b] below meth c H1 locs1 (cells + 1) (slots + 6) Q (F0 m 1204 ls1 [])) : W p l e room_1 s m #[Value.ref b] below meth c H locs cells slots Q (F0 m 889 ls []) := by
  obtain ⟨hx, hb, hr, hml, hown, hts, hX, hbl, hlk, -⟩ := id C0
  have hG : ∀ w ∈ gw, w.before #[Value.ref b] s = true := fun w hw => hts w (List.mem_filter.mp hw).1
  have hS9 : CallFix p m c code 8 s #[Value.ref b] gw "HandTablesLaw" := ⟨hx, hb, hml, hown, hG⟩
  have hT9 : ∀ w ∈ gw, w ∈ gw := fun _ h => h
  obtain ⟨hap, ham, ho, hdis, hA1, hA2, hK1, hK2, hTa, hEx, hNc⟩ := id hC
  have hbA : ¬ nw_A s b := fun z => absurd hbl (Nat.not_lt.mpr z)
  refine lv_aload_n hx hb dW_889 rfl (lv_at hl 3 rfl) ?_
  refine lv_aload_n hx hb dW_890 rfl (lv_at hl 1 rfl) ?_
  refine wq_S (cL_ahead l g o T dk dn f  hap ho res dd hdd hM hE hV) rfl hT9 kW_ahead hS9 (lq_of hC hP1 hSS) ⟨Nat.le_of_ble_eq_true rfl, Nat.le_of_ble_eq_true rfl⟩ hl.1 rfl (Nat.le_of_ble_eq_true rfl) hf dW_891 hSS hA1 (fun k f1 T1 dk1 dn1 H locs hR0 hP1 hSS hz hk => ?_)
  have hP2 := mo_kept hC hP2 hk
  refine lv_istore (lv' := [(5, .int k), (4, .int (nI i)), (3, .ref o), (2, .ref (gm.2.2 0)), (1, .ref (xo_a g)), (0, .ref b)]) hx hb dW_894 hl (by decide) rfl (fun ls hl => ?_)
  refine lv_aload_n hx hb dW_896 rfl (lv_at hl 3 rfl) ?_
  refine mm_VT hMM rfl hT9 kL_M_ahead hS9 hK2 hP2 ⟨Nat.le_trans (show dm + 1 ≤ 10 by omega) (Nat.le_of_ble_eq_true rfl), Nat.le_trans (show _ ≤ 1000 by omega) (Nat.le_of_ble_eq_true rfl)⟩ hl.1 rfl (Nat.le_of_ble_eq_true rfl) hf dW_897 hSS hA2 (fun v S1 H locs hR1 hP2 hSS hz hk2 => ?_)
  have hP1 := xq_kept hC hP1 hk2
  obtain ⟨y, rfl, hkk, hzz, hInv⟩ := tie k (f1 0) T1 dk1 dn1 v S1 hR0 hR1
  refine lv_istore (lv' := [(6, .int y), (5, .int k), (4, .int (nI i)), (3, .ref o), (2, .ref (gm.2.2 0)), (1, .ref (xo_a g)), (0, .ref b)]) hx hb dW_900 hl (by decide) rfl (fun ls hl => ?_)
  refine lv_aload_n hx hb dW_902 rfl (lv_at hl 4 rfl) ?_
  refine mm_VT (cM_th l gm S1 ham) rfl hT9 kL_M_thrown hS9 hK2 hP2 ⟨Nat.le_of_ble_eq_true rfl, Nat.le_of_ble_eq_true rfl⟩ hl.1 rfl (Nat.le_of_ble_eq_true rfl) hf dW_903 hSS hA2 (fun v9 S9 H locs hR9 hP2 hSS hz hk3 => ?_)
  obtain ⟨rfl, e9⟩ := hR9
  rw [e9] at hP2
  have hP1 := xq_kept hC hP1 hk3
  refine lv_iload hx hb dW_906 (lv_at hl 1 rfl) ?_
  refine lv_icmp_eq (tgt := 913) hx hb dW_908 (by decide) (fun hc1 => ?_) (fun hc1 => absurd hkk.symm hc1)
  refine lv_iload hx hb dW_913 (lv_at hl 1 rfl) ?_
  refine lv_if_ne (tgt := 930) hx hb dW_915 (by decide) (fun hc2 => ?_) (fun hc2 => ?_)
  · refine lv_goto (tgt := 1204) hx hb dW_930 (by decide) ?_
    exact K _ _ _ _ _ _ _ _ hP1 hP2 hSS hInv (lv_sub hl [2, 3, 4, 5, 6] rfl)
  refine lv_aload_n hx hb dW_918 rfl (lv_at hl 3 rfl) ?_
  refine lv_iconst (v := 0) hx hb dW_919 (by decide) ?_
  refine va_lald hx hb hK1 hP1 3 0 rfl rfl (by unfold vp_in; decide) dW_920 ?_
  refine lv_iload hx hb dW_921 (lv_at hl 0 rfl) ?_
  refine jv_i2l hx hb dW_923 ?_
  refine jv_lceq (tgt := 930) hx hb dW_924 dW_925 (by decide) (fun hc4 => ?_) (fun hc4 => absurd (hzz hc2) hc4)
  refine lv_goto (tgt := 1204) hx hb dW_930 (by decide) ?_
  exact K _ _ _ _ _ _ _ _ hP1 hP2 hSS hInv (lv_sub hl [2, 3, 4, 5, 6] rfl)
set_option maxHeartbeats 4000000 in
set_option maxRecDepth 100000 in
theorem lw_boards {p : Program} {e : Env} {s : State} {m : MethodId} {below : List Frame} {meth : Method} {c : Code} {b L : Nat} {xs : Nat → Int32} {g : xo_E} {gm : mo_E} {o : Nat} {T : Nat → Int64} {dk : Nat → Int32} {dn : Int32} {f : Nat → Int64} {S : mS} {H : Heap} {locs : List Loc} {cells slots i : Nat} {ls : Array Slot} {Q : State → Prop} (l : Launch) (C0 : lw_At p s m meth c b L xs) (hL : L ≤ 2048) (hi : i + 4 ≤ L) (hC : LC s g gm o) (hP1 : va_P g.1 cl_X (xq_W g o T dk dn f) H) (hP2 : va_P gm.1 cl_X (mo_W gm S) H) (hSS : va_S (nw_A s) s.heap H locs) (hl : lv_has ls 8 [(4, .int (nI i)), (3, .ref o), (2, .ref (gm.2.2 0)), (1, .ref (xo_a g)), (0, .ref b)]) (hf : cells + 1 ≤ room_1.cells ∧ slots + 6 ≤ room_1.slots) (res : mu_R) (dd : Nat) (hdd : dd ≤ 9) (hM : mu_M l yA_boards bA_boards 2 (some .int) dd (.ref (xo_a g) :: []) g (xo_F g T dk dn) res) (hE : ∀ E, res = .inl E → E = ex_IS) (hV : ∀ v T1 k1 n1, res = .inr (v, T1, k1, n1) → ∃ z : Int32, v = some (.int z)) (dm : Nat) (hdm : dm ≤ 9) (R1 : mm_T) (hMM : mm_M l yM_boards bM_boards 1 (some .int) dm (.ref (gm.2.2 0) :: []) gm S R1) (tie : ∀ (k : Int32) (z : Int64) (T1 : Nat → Int64) (dk1 : Nat → Int32) (dn1 : Int32) (v : Option Value) (S1 : mS), ((res = .inl ex_IS ∧ k = 1 ∧ T1 = T ∧ dk1 = dk ∧ dn1 = dn) ∨ (∃ v : Int32, res = .inr (some (.int v), T1, dk1, dn1) ∧ k = 0 ∧ z = v.toInt64)) → R1 v S1 → ∃ y : Int32, v = some (.int y) ∧ k = S1.1 ∧ (k = 0 → z = y.toInt64) ∧ Inv T1 dk1 dn1 S1) (K : ∀ (T1 : Nat → Int64) (dk1 : Nat → Int32) (dn1 : Int32) (f1 : Nat → Int64) (S1 : mS) (H1 : Heap) (locs1 : List Loc) (ls1 : Array Slot), va_P g.1 cl_X (xq_W g o T1 dk1 dn1 f1) H1 → va_P gm.1 cl_X (mo_W gm S1) H1 → va_S (nw_A s) s.heap H1 locs1 → Inv T1 dk1 dn1 S1 → lv_has ls1 8 [(4, .int (nI i)), (3, .ref o), (2, .ref (gm.2.2 0)), (1, .ref (xo_a g)), (0, .ref b)] → W p l e room_1 s m #[Value.ref b] below meth c H1 locs1 (cells + 1) (slots + 6) Q (F0 m 1204 ls1 [])) : W p l e room_1 s m #[Value.ref b] below meth c H locs cells slots Q (F0 m 933 ls []) := by
  obtain ⟨hx, hb, hr, hml, hown, hts, hX, hbl, hlk, -⟩ := id C0
  have hG : ∀ w ∈ gw, w.before #[Value.ref b] s = true := fun w hw => hts w (List.mem_filter.mp hw).1
  have hS9 : CallFix p m c code 8 s #[Value.ref b] gw "HandTablesLaw" := ⟨hx, hb, hml, hown, hG⟩
  have hT9 : ∀ w ∈ gw, w ∈ gw := fun _ h => h
  obtain ⟨hap, ham, ho, hdis, hA1, hA2, hK1, hK2, hTa, hEx, hNc⟩ := id hC
  have hbA : ¬ nw_A s b := fun z => absurd hbl (Nat.not_lt.mpr z)
  refine lv_aload_n hx hb dW_933 rfl (lv_at hl 3 rfl) ?_
  refine lv_aload_n hx hb dW_934 rfl (lv_at hl 1 rfl) ?_
  refine wq_S (cL_boards l g o T dk dn f  hap ho res dd hdd hM hE hV) rfl hT9 kW_boards hS9 (lq_of hC hP1 hSS) ⟨Nat.le_of_ble_eq_true rfl, Nat.le_of_ble_eq_true rfl⟩ hl.1 rfl (Nat.le_of_ble_eq_true rfl) hf dW_935 hSS hA1 (fun k f1 T1 dk1 dn1 H locs hR0 hP1 hSS hz hk => ?_)
  have hP2 := mo_kept hC hP2 hk
  refine lv_istore (lv' := [(5, .int k), (4, .int (nI i)), (3, .ref o), (2, .ref (gm.2.2 0)), (1, .ref (xo_a g)), (0, .ref b)]) hx hb dW_938 hl (by decide) rfl (fun ls hl => ?_)
  refine lv_aload_n hx hb dW_940 rfl (lv_at hl 3 rfl) ?_
  refine mm_VT hMM rfl hT9 kL_M_boards hS9 hK2 hP2 ⟨Nat.le_trans (show dm + 1 ≤ 10 by omega) (Nat.le_of_ble_eq_true rfl), Nat.le_trans (show _ ≤ 1000 by omega) (Nat.le_of_ble_eq_true rfl)⟩ hl.1 rfl (Nat.le_of_ble_eq_true rfl) hf dW_941 hSS hA2 (fun v S1 H locs hR1 hP2 hSS hz hk2 => ?_)
  have hP1 := xq_kept hC hP1 hk2
  obtain ⟨y, rfl, hkk, hzz, hInv⟩ := tie k (f1 0) T1 dk1 dn1 v S1 hR0 hR1
  refine lv_istore (lv' := [(6, .int y), (5, .int k), (4, .int (nI i)), (3, .ref o), (2, .ref (gm.2.2 0)), (1, .ref (xo_a g)), (0, .ref b)]) hx hb dW_944 hl (by decide) rfl (fun ls hl => ?_)
  refine lv_aload_n hx hb dW_946 rfl (lv_at hl 4 rfl) ?_
  refine mm_VT (cM_th l gm S1 ham) rfl hT9 kL_M_thrown hS9 hK2 hP2 ⟨Nat.le_of_ble_eq_true rfl, Nat.le_of_ble_eq_true rfl⟩ hl.1 rfl (Nat.le_of_ble_eq_true rfl) hf dW_947 hSS hA2 (fun v9 S9 H locs hR9 hP2 hSS hz hk3 => ?_)
  obtain ⟨rfl, e9⟩ := hR9
  rw [e9] at hP2
  have hP1 := xq_kept hC hP1 hk3
  refine lv_iload hx hb dW_950 (lv_at hl 1 rfl) ?_
  refine lv_icmp_eq (tgt := 957) hx hb dW_952 (by decide) (fun hc1 => ?_) (fun hc1 => absurd hkk.symm hc1)
  refine lv_iload hx hb dW_957 (lv_at hl 1 rfl) ?_
  refine lv_if_ne (tgt := 974) hx hb dW_959 (by decide) (fun hc2 => ?_) (fun hc2 => ?_)
  · refine lv_goto (tgt := 1204) hx hb dW_974 (by decide) ?_
    exact K _ _ _ _ _ _ _ _ hP1 hP2 hSS hInv (lv_sub hl [2, 3, 4, 5, 6] rfl)
  refine lv_aload_n hx hb dW_962 rfl (lv_at hl 3 rfl) ?_
  refine lv_iconst (v := 0) hx hb dW_963 (by decide) ?_
  refine va_lald hx hb hK1 hP1 3 0 rfl rfl (by unfold vp_in; decide) dW_964 ?_
  refine lv_iload hx hb dW_965 (lv_at hl 0 rfl) ?_
  refine jv_i2l hx hb dW_967 ?_
  refine jv_lceq (tgt := 974) hx hb dW_968 dW_969 (by decide) (fun hc4 => ?_) (fun hc4 => absurd (hzz hc2) hc4)
  refine lv_goto (tgt := 1204) hx hb dW_974 (by decide) ?_
  exact K _ _ _ _ _ _ _ _ hP1 hP2 hSS hInv (lv_sub hl [2, 3, 4, 5, 6] rfl)
set_option maxHeartbeats 4000000 in
set_option maxRecDepth 100000 in
theorem lw_wins {p : Program} {e : Env} {s : State} {m : MethodId} {below : List Frame} {meth : Method} {c : Code} {b L : Nat} {xs : Nat → Int32} {g : xo_E} {gm : mo_E} {o : Nat} {T : Nat → Int64} {dk : Nat → Int32} {dn : Int32} {f : Nat → Int64} {S : mS} {H : Heap} {locs : List Loc} {cells slots i : Nat} {ls : Array Slot} {Q : State → Prop} (l : Launch) (C0 : lw_At p s m meth c b L xs) (hL : L ≤ 2048) (hi : i + 4 ≤ L) (hC : LC s g gm o) (hP1 : va_P g.1 cl_X (xq_W g o T dk dn f) H) (hP2 : va_P gm.1 cl_X (mo_W gm S) H) (hSS : va_S (nw_A s) s.heap H locs) (hl : lv_has ls 8 [(4, .int (nI i)), (3, .ref o), (2, .ref (gm.2.2 0)), (1, .ref (xo_a g)), (0, .ref b)]) (hf : cells + 1 ≤ room_1.cells ∧ slots + 6 ≤ room_1.slots) (res : mu_R) (dd : Nat) (hdd : dd ≤ 9) (hM : mu_M l yA_wins bA_wins 3 (some .int) dd (.ref (xo_a g) :: [.int (lw_j xs i 1), .int (lw_j xs i 2)]) g (xo_F g T dk dn) res) (hE : ∀ E, res = .inl E → E = ex_IO ∨ E = ex_IA ∨ E = ex_IS) (hV : ∀ v T1 k1 n1, res = .inr (v, T1, k1, n1) → ∃ z : Int32, v = some (.int z)) (dm : Nat) (hdm : dm ≤ 9) (R1 : mm_T) (hMM : mm_M l yM_wins bM_wins 3 (some .int) dm (.ref (gm.2.2 0) :: [.int (lw_j xs i 1), .int (lw_j xs i 2)]) gm S R1) (tie : ∀ (k : Int32) (z : Int64) (T1 : Nat → Int64) (dk1 : Nat → Int32) (dn1 : Int32) (v : Option Value) (S1 : mS), ((res = .inl ex_IO ∧ k = 1 ∧ T1 = T ∧ dk1 = dk ∧ dn1 = dn) ∨ (res = .inl ex_IA ∧ k = 2 ∧ T1 = T ∧ dk1 = dk ∧ dn1 = dn) ∨ (res = .inl ex_IS ∧ k = 3 ∧ T1 = T ∧ dk1 = dk ∧ dn1 = dn) ∨ (∃ v : Int32, res = .inr (some (.int v), T1, dk1, dn1) ∧ k = 0 ∧ z = v.toInt64)) → R1 v S1 → ∃ y : Int32, v = some (.int y) ∧ k = S1.1 ∧ (k = 0 → z = y.toInt64) ∧ Inv T1 dk1 dn1 S1) (K : ∀ (T1 : Nat → Int64) (dk1 : Nat → Int32) (dn1 : Int32) (f1 : Nat → Int64) (S1 : mS) (H1 : Heap) (locs1 : List Loc) (ls1 : Array Slot), va_P g.1 cl_X (xq_W g o T1 dk1 dn1 f1) H1 → va_P gm.1 cl_X (mo_W gm S1) H1 → va_S (nw_A s) s.heap H1 locs1 → Inv T1 dk1 dn1 S1 → lv_has ls1 8 [(4, .int (nI i)), (3, .ref o), (2, .ref (gm.2.2 0)), (1, .ref (xo_a g)), (0, .ref b)] → W p l e room_1 s m #[Value.ref b] below meth c H1 locs1 (cells + 1) (slots + 6) Q (F0 m 1204 ls1 [])) : W p l e room_1 s m #[Value.ref b] below meth c H locs cells slots Q (F0 m 977 ls []) := by
  obtain ⟨hx, hb, hr, hml, hown, hts, hX, hbl, hlk, -⟩ := id C0
  have hG : ∀ w ∈ gw, w.before #[Value.ref b] s = true := fun w hw => hts w (List.mem_filter.mp hw).1
  have hS9 : CallFix p m c code 8 s #[Value.ref b] gw "HandTablesLaw" := ⟨hx, hb, hml, hown, hG⟩
  have hT9 : ∀ w ∈ gw, w ∈ gw := fun _ h => h
  obtain ⟨hap, ham, ho, hdis, hA1, hA2, hK1, hK2, hTa, hEx, hNc⟩ := id hC
  have hbA : ¬ nw_A s b := fun z => absurd hbl (Nat.not_lt.mpr z)
  refine lv_aload_n hx hb dW_977 rfl (lv_at hl 3 rfl) ?_
  refine lv_aload_n hx hb dW_978 rfl (lv_at hl 4 rfl) ?_
  refine lv_iload hx hb dW_979 (lv_at hl 0 rfl) ?_
  refine lv_iconst (v := 1) hx hb dW_981 (by decide) ?_
  refine lv_iadd hx hb dW_982 ?_
  refine va_sld hx hb hX hbl hbA hSS (lw_in1 hi hL) dW_983 ?_
  refine lv_aload_n hx hb dW_984 rfl (lv_at hl 4 rfl) ?_
  refine lv_iload hx hb dW_985 (lv_at hl 0 rfl) ?_
  refine lv_iconst (v := 2) hx hb dW_987 (by decide) ?_
  refine lv_iadd hx hb dW_988 ?_
  refine va_sld hx hb hX hbl hbA hSS (lw_in2 hi hL) dW_989 ?_
  refine lv_aload_n hx hb dW_990 rfl (lv_at hl 1 rfl) ?_
  refine wq_S (cL_wins l g o T dk dn f (lw_j xs i 1) (lw_j xs i 2) hap ho res dd hdd hM hE hV) rfl hT9 kW_wins hS9 (lq_of hC hP1 hSS) ⟨Nat.le_of_ble_eq_true rfl, Nat.le_of_ble_eq_true rfl⟩ hl.1 rfl (Nat.le_of_ble_eq_true rfl) hf dW_991 hSS hA1 (fun k f1 T1 dk1 dn1 H locs hR0 hP1 hSS hz hk => ?_)
  have hP2 := mo_kept hC hP2 hk
  refine lv_istore (lv' := [(5, .int k), (4, .int (nI i)), (3, .ref o), (2, .ref (gm.2.2 0)), (1, .ref (xo_a g)), (0, .ref b)]) hx hb dW_994 hl (by decide) rfl (fun ls hl => ?_)
  refine lv_aload_n hx hb dW_996 rfl (lv_at hl 3 rfl) ?_
  refine lv_aload_n hx hb dW_997 rfl (lv_at hl 5 rfl) ?_
  refine lv_iload hx hb dW_998 (lv_at hl 1 rfl) ?_
  refine lv_iconst (v := 1) hx hb dW_1000 (by decide) ?_
  refine lv_iadd hx hb dW_1001 ?_
  refine va_sld hx hb hX hbl hbA hSS (lw_in1 hi hL) dW_1002 ?_
  refine lv_aload_n hx hb dW_1003 rfl (lv_at hl 5 rfl) ?_
  refine lv_iload hx hb dW_1004 (lv_at hl 1 rfl) ?_
  refine lv_iconst (v := 2) hx hb dW_1006 (by decide) ?_
  refine lv_iadd hx hb dW_1007 ?_
  refine va_sld hx hb hX hbl hbA hSS (lw_in2 hi hL) dW_1008 ?_
  refine mm_VT hMM rfl hT9 kL_M_wins hS9 hK2 hP2 ⟨Nat.le_trans (show dm + 1 ≤ 10 by omega) (Nat.le_of_ble_eq_true rfl), Nat.le_trans (show _ ≤ 1000 by omega) (Nat.le_of_ble_eq_true rfl)⟩ hl.1 rfl (Nat.le_of_ble_eq_true rfl) hf dW_1009 hSS hA2 (fun v S1 H locs hR1 hP2 hSS hz hk2 => ?_)
  have hP1 := xq_kept hC hP1 hk2
  obtain ⟨y, rfl, hkk, hzz, hInv⟩ := tie k (f1 0) T1 dk1 dn1 v S1 hR0 hR1
  refine lv_istore (lv' := [(6, .int y), (5, .int k), (4, .int (nI i)), (3, .ref o), (2, .ref (gm.2.2 0)), (1, .ref (xo_a g)), (0, .ref b)]) hx hb dW_1012 hl (by decide) rfl (fun ls hl => ?_)
  refine lv_aload_n hx hb dW_1014 rfl (lv_at hl 4 rfl) ?_
  refine mm_VT (cM_th l gm S1 ham) rfl hT9 kL_M_thrown hS9 hK2 hP2 ⟨Nat.le_of_ble_eq_true rfl, Nat.le_of_ble_eq_true rfl⟩ hl.1 rfl (Nat.le_of_ble_eq_true rfl) hf dW_1015 hSS hA2 (fun v9 S9 H locs hR9 hP2 hSS hz hk3 => ?_)
  obtain ⟨rfl, e9⟩ := hR9
  rw [e9] at hP2
  have hP1 := xq_kept hC hP1 hk3
  refine lv_iload hx hb dW_1018 (lv_at hl 1 rfl) ?_
  refine lv_icmp_eq (tgt := 1025) hx hb dW_1020 (by decide) (fun hc1 => ?_) (fun hc1 => absurd hkk.symm hc1)
  refine lv_iload hx hb dW_1025 (lv_at hl 1 rfl) ?_
  refine lv_if_ne (tgt := 1042) hx hb dW_1027 (by decide) (fun hc2 => ?_) (fun hc2 => ?_)
  · refine lv_goto (tgt := 1204) hx hb dW_1042 (by decide) ?_
    exact K _ _ _ _ _ _ _ _ hP1 hP2 hSS hInv (lv_sub hl [2, 3, 4, 5, 6] rfl)
  refine lv_aload_n hx hb dW_1030 rfl (lv_at hl 3 rfl) ?_
  refine lv_iconst (v := 0) hx hb dW_1031 (by decide) ?_
  refine va_lald hx hb hK1 hP1 3 0 rfl rfl (by unfold vp_in; decide) dW_1032 ?_
  refine lv_iload hx hb dW_1033 (lv_at hl 0 rfl) ?_
  refine jv_i2l hx hb dW_1035 ?_
  refine jv_lceq (tgt := 1042) hx hb dW_1036 dW_1037 (by decide) (fun hc4 => ?_) (fun hc4 => absurd (hzz hc2) hc4)
  refine lv_goto (tgt := 1204) hx hb dW_1042 (by decide) ?_
  exact K _ _ _ _ _ _ _ _ hP1 hP2 hSS hInv (lv_sub hl [2, 3, 4, 5, 6] rfl)
set_option maxHeartbeats 4000000 in
set_option maxRecDepth 100000 in
theorem lw_outs {p : Program} {e : Env} {s : State} {m : MethodId} {below : List Frame} {meth : Method} {c : Code} {b L : Nat} {xs : Nat → Int32} {g : xo_E} {gm : mo_E} {o : Nat} {T : Nat → Int64} {dk : Nat → Int32} {dn : Int32} {f : Nat → Int64} {S : mS} {H : Heap} {locs : List Loc} {cells slots i : Nat} {ls : Array Slot} {Q : State → Prop} (l : Launch) (C0 : lw_At p s m meth c b L xs) (hL : L ≤ 2048) (hi : i + 4 ≤ L) (hC : LC s g gm o) (hP1 : va_P g.1 cl_X (xq_W g o T dk dn f) H) (hP2 : va_P gm.1 cl_X (mo_W gm S) H) (hSS : va_S (nw_A s) s.heap H locs) (hl : lv_has ls 8 [(4, .int (nI i)), (3, .ref o), (2, .ref (gm.2.2 0)), (1, .ref (xo_a g)), (0, .ref b)]) (hf : cells + 1 ≤ room_1.cells ∧ slots + 6 ≤ room_1.slots) (res : mu_R) (dd : Nat) (hdd : dd ≤ 9) (hM : mu_M l yA_outs bA_outs 9 (some .long) dd (.ref (xo_a g) :: [.int (lw_j xs i 1)]) g (xo_F g T dk dn) res) (hE : ∀ E, res = .inl E → E = ex_IO ∨ E = ex_IS) (hV : ∀ v T1 k1 n1, res = .inr (v, T1, k1, n1) → ∃ z : Int64, v = some (.long z)) (dm : Nat) (hdm : dm ≤ 9) (R1 : mm_T) (hMM : mm_M l yM_outs bM_outs 5 (some .long) dm (.ref (gm.2.2 0) :: [.int (lw_j xs i 1)]) gm S R1) (tie : ∀ (k : Int32) (z : Int64) (T1 : Nat → Int64) (dk1 : Nat → Int32) (dn1 : Int32) (v : Option Value) (S1 : mS), ((res = .inl ex_IO ∧ k = 1 ∧ T1 = T ∧ dk1 = dk ∧ dn1 = dn) ∨ (res = .inl ex_IS ∧ k = 2 ∧ T1 = T ∧ dk1 = dk ∧ dn1 = dn) ∨ (∃ v : Int64, res = .inr (some (.long v), T1, dk1, dn1) ∧ k = 0 ∧ z = v)) → R1 v S1 → ∃ y : Int64, v = some (.long y) ∧ k = S1.1 ∧ (k = 0 → z = y) ∧ Inv T1 dk1 dn1 S1) (K : ∀ (T1 : Nat → Int64) (dk1 : Nat → Int32) (dn1 : Int32) (f1 : Nat → Int64) (S1 : mS) (H1 : Heap) (locs1 : List Loc) (ls1 : Array Slot), va_P g.1 cl_X (xq_W g o T1 dk1 dn1 f1) H1 → va_P gm.1 cl_X (mo_W gm S1) H1 → va_S (nw_A s) s.heap H1 locs1 → Inv T1 dk1 dn1 S1 → lv_has ls1 8 [(4, .int (nI i)), (3, .ref o), (2, .ref (gm.2.2 0)), (1, .ref (xo_a g)), (0, .ref b)] → W p l e room_1 s m #[Value.ref b] below meth c H1 locs1 (cells + 1) (slots + 6) Q (F0 m 1204 ls1 [])) : W p l e room_1 s m #[Value.ref b] below meth c H locs cells slots Q (F0 m 1045 ls []) := by
  obtain ⟨hx, hb, hr, hml, hown, hts, hX, hbl, hlk, -⟩ := id C0
  have hG : ∀ w ∈ gw, w.before #[Value.ref b] s = true := fun w hw => hts w (List.mem_filter.mp hw).1
  have hS9 : CallFix p m c code 8 s #[Value.ref b] gw "HandTablesLaw" := ⟨hx, hb, hml, hown, hG⟩
  have hT9 : ∀ w ∈ gw, w ∈ gw := fun _ h => h
  obtain ⟨hap, ham, ho, hdis, hA1, hA2, hK1, hK2, hTa, hEx, hNc⟩ := id hC
  have hbA : ¬ nw_A s b := fun z => absurd hbl (Nat.not_lt.mpr z)
  refine lv_aload_n hx hb dW_1045 rfl (lv_at hl 3 rfl) ?_
  refine lv_aload_n hx hb dW_1046 rfl (lv_at hl 4 rfl) ?_
  refine lv_iload hx hb dW_1047 (lv_at hl 0 rfl) ?_
  refine lv_iconst (v := 1) hx hb dW_1049 (by decide) ?_
  refine lv_iadd hx hb dW_1050 ?_
  refine va_sld hx hb hX hbl hbA hSS (lw_in1 hi hL) dW_1051 ?_
  refine lv_aload_n hx hb dW_1052 rfl (lv_at hl 1 rfl) ?_
  refine wq_S (cL_outs l g o T dk dn f (lw_j xs i 1) hap ho res dd hdd hM hE hV) rfl hT9 kW_outs hS9 (lq_of hC hP1 hSS) ⟨Nat.le_of_ble_eq_true rfl, Nat.le_of_ble_eq_true rfl⟩ hl.1 rfl (Nat.le_of_ble_eq_true rfl) hf dW_1053 hSS hA1 (fun k f1 T1 dk1 dn1 H locs hR0 hP1 hSS hz hk => ?_)
  have hP2 := mo_kept hC hP2 hk
  refine lv_istore (lv' := [(5, .int k), (4, .int (nI i)), (3, .ref o), (2, .ref (gm.2.2 0)), (1, .ref (xo_a g)), (0, .ref b)]) hx hb dW_1056 hl (by decide) rfl (fun ls hl => ?_)
  refine lv_aload_n hx hb dW_1058 rfl (lv_at hl 3 rfl) ?_
  refine lv_aload_n hx hb dW_1059 rfl (lv_at hl 5 rfl) ?_
  refine lv_iload hx hb dW_1060 (lv_at hl 1 rfl) ?_
  refine lv_iconst (v := 1) hx hb dW_1062 (by decide) ?_
  refine lv_iadd hx hb dW_1063 ?_
  refine va_sld hx hb hX hbl hbA hSS (lw_in1 hi hL) dW_1064 ?_
  refine mm_VT hMM rfl hT9 kL_M_outs hS9 hK2 hP2 ⟨Nat.le_trans (show dm + 1 ≤ 10 by omega) (Nat.le_of_ble_eq_true rfl), Nat.le_trans (show _ ≤ 1000 by omega) (Nat.le_of_ble_eq_true rfl)⟩ hl.1 rfl (Nat.le_of_ble_eq_true rfl) hf dW_1065 hSS hA2 (fun v S1 H locs hR1 hP2 hSS hz hk2 => ?_)
  have hP1 := xq_kept hC hP1 hk2
  obtain ⟨y, rfl, hkk, hzz, hInv⟩ := tie k (f1 0) T1 dk1 dn1 v S1 hR0 hR1
  refine lv_lstore (lv' := [(6, .long y), (5, .int k), (4, .int (nI i)), (3, .ref o), (2, .ref (gm.2.2 0)), (1, .ref (xo_a g)), (0, .ref b)]) hx hb dW_1068 hl (by decide) rfl (fun ls hl => ?_)
  refine lv_aload_n hx hb dW_1070 rfl (lv_at hl 4 rfl) ?_
  refine mm_VT (cM_th l gm S1 ham) rfl hT9 kL_M_thrown hS9 hK2 hP2 ⟨Nat.le_of_ble_eq_true rfl, Nat.le_of_ble_eq_true rfl⟩ hl.1 rfl (Nat.le_of_ble_eq_true rfl) hf dW_1071 hSS hA2 (fun v9 S9 H locs hR9 hP2 hSS hz hk3 => ?_)
  obtain ⟨rfl, e9⟩ := hR9
  rw [e9] at hP2
  have hP1 := xq_kept hC hP1 hk3
  refine lv_iload hx hb dW_1074 (lv_at hl 1 rfl) ?_
  refine lv_icmp_eq (tgt := 1081) hx hb dW_1076 (by decide) (fun hc1 => ?_) (fun hc1 => absurd hkk.symm hc1)
  refine lv_iload hx hb dW_1081 (lv_at hl 1 rfl) ?_
  refine lv_if_ne (tgt := 1097) hx hb dW_1083 (by decide) (fun hc2 => ?_) (fun hc2 => ?_)
  · refine lv_goto (tgt := 1204) hx hb dW_1097 (by decide) ?_
    exact K _ _ _ _ _ _ _ _ hP1 hP2 hSS hInv (lv_sub hl [2, 3, 4, 5, 6] rfl)
  refine lv_aload_n hx hb dW_1086 rfl (lv_at hl 3 rfl) ?_
  refine lv_iconst (v := 0) hx hb dW_1087 (by decide) ?_
  refine va_lald hx hb hK1 hP1 3 0 rfl rfl (by unfold vp_in; decide) dW_1088 ?_
  refine lv_lload hx hb dW_1089 (lv_at hl 0 rfl) ?_
  refine jv_lceq (tgt := 1097) hx hb dW_1091 dW_1092 (by decide) (fun hc4 => ?_) (fun hc4 => absurd (hzz hc2) hc4)
  refine lv_goto (tgt := 1204) hx hb dW_1097 (by decide) ?_
  exact K _ _ _ _ _ _ _ _ hP1 hP2 hSS hInv (lv_sub hl [2, 3, 4, 5, 6] rfl)
set_option maxHeartbeats 4000000 in
set_option maxRecDepth 100000 in
theorem lw_share {p : Program} {e : Env} {s : State} {m : MethodId} {below : List Frame} {meth : Method} {c : Code} {b L : Nat} {xs : Nat → Int32} {g : xo_E} {gm : mo_E} {o : Nat} {T : Nat → Int64} {dk : Nat → Int32} {dn : Int32} {f : Nat → Int64} {S : mS} {H : Heap} {locs : List Loc} {cells slots i : Nat} {ls : Array Slot} {Q : State → Prop} (l : Launch) (C0 : lw_At p s m meth c b L xs) (hL : L ≤ 2048) (hi : i + 4 ≤ L) (hC : LC s g gm o) (hP1 : va_P g.1 cl_X (xq_W g o T dk dn f) H) (hP2 : va_P gm.1 cl_X (mo_W gm S) H) (hSS : va_S (nw_A s) s.heap H locs) (hl : lv_has ls 8 [(4, .int (nI i)), (3, .ref o), (2, .ref (gm.2.2 0)), (1, .ref (xo_a g)), (0, .ref b)]) (hf : cells + 1 ≤ room_1.cells ∧ slots + 6 ≤ room_1.slots) (res : mu_R) (dd : Nat) (hdd : dd ≤ 9) (hM : mu_M l yA_share bA_share 6 (some .int) dd (.ref (xo_a g) :: [.int (lw_j xs i 1), .int (lw_j xs i 2)]) g (xo_F g T dk dn) res) (hE : ∀ E, res = .inl E → E = ex_IO ∨ E = ex_IA ∨ E = ex_IS) (hV : ∀ v T1 k1 n1, res = .inr (v, T1, k1, n1) → ∃ z : Int32, v = some (.int z)) (dm : Nat) (hdm : dm ≤ 9) (R1 : mm_T) (hMM : mm_M l yM_share bM_share 7 (some .int) dm (.ref (gm.2.2 0) :: [.int (lw_j xs i 1), .int (lw_j xs i 2)]) gm S R1) (tie : ∀ (k : Int32) (z : Int64) (T1 : Nat → Int64) (dk1 : Nat → Int32) (dn1 : Int32) (v : Option Value) (S1 : mS), ((res = .inl ex_IO ∧ k = 1 ∧ T1 = T ∧ dk1 = dk ∧ dn1 = dn) ∨ (res = .inl ex_IA ∧ k = 2 ∧ T1 = T ∧ dk1 = dk ∧ dn1 = dn) ∨ (res = .inl ex_IS ∧ k = 3 ∧ T1 = T ∧ dk1 = dk ∧ dn1 = dn) ∨ (∃ v : Int32, res = .inr (some (.int v), T1, dk1, dn1) ∧ k = 0 ∧ z = v.toInt64)) → R1 v S1 → ∃ y : Int32, v = some (.int y) ∧ k = S1.1 ∧ (k = 0 → z = y.toInt64) ∧ Inv T1 dk1 dn1 S1) (K : ∀ (T1 : Nat → Int64) (dk1 : Nat → Int32) (dn1 : Int32) (f1 : Nat → Int64) (S1 : mS) (H1 : Heap) (locs1 : List Loc) (ls1 : Array Slot), va_P g.1 cl_X (xq_W g o T1 dk1 dn1 f1) H1 → va_P gm.1 cl_X (mo_W gm S1) H1 → va_S (nw_A s) s.heap H1 locs1 → Inv T1 dk1 dn1 S1 → lv_has ls1 8 [(4, .int (nI i)), (3, .ref o), (2, .ref (gm.2.2 0)), (1, .ref (xo_a g)), (0, .ref b)] → W p l e room_1 s m #[Value.ref b] below meth c H1 locs1 (cells + 1) (slots + 6) Q (F0 m 1204 ls1 [])) : W p l e room_1 s m #[Value.ref b] below meth c H locs cells slots Q (F0 m 1100 ls []) := by
  obtain ⟨hx, hb, hr, hml, hown, hts, hX, hbl, hlk, -⟩ := id C0
  have hG : ∀ w ∈ gw, w.before #[Value.ref b] s = true := fun w hw => hts w (List.mem_filter.mp hw).1
  have hS9 : CallFix p m c code 8 s #[Value.ref b] gw "HandTablesLaw" := ⟨hx, hb, hml, hown, hG⟩
  have hT9 : ∀ w ∈ gw, w ∈ gw := fun _ h => h
  obtain ⟨hap, ham, ho, hdis, hA1, hA2, hK1, hK2, hTa, hEx, hNc⟩ := id hC
  have hbA : ¬ nw_A s b := fun z => absurd hbl (Nat.not_lt.mpr z)
  refine lv_aload_n hx hb dW_1100 rfl (lv_at hl 3 rfl) ?_
  refine lv_aload_n hx hb dW_1101 rfl (lv_at hl 4 rfl) ?_
  refine lv_iload hx hb dW_1102 (lv_at hl 0 rfl) ?_
  refine lv_iconst (v := 1) hx hb dW_1104 (by decide) ?_
  refine lv_iadd hx hb dW_1105 ?_
  refine va_sld hx hb hX hbl hbA hSS (lw_in1 hi hL) dW_1106 ?_
  refine lv_aload_n hx hb dW_1107 rfl (lv_at hl 4 rfl) ?_
  refine lv_iload hx hb dW_1108 (lv_at hl 0 rfl) ?_
  refine lv_iconst (v := 2) hx hb dW_1110 (by decide) ?_
  refine lv_iadd hx hb dW_1111 ?_
  refine va_sld hx hb hX hbl hbA hSS (lw_in2 hi hL) dW_1112 ?_
  refine lv_aload_n hx hb dW_1113 rfl (lv_at hl 1 rfl) ?_
  refine wq_S (cL_share l g o T dk dn f (lw_j xs i 1) (lw_j xs i 2) hap ho res dd hdd hM hE hV) rfl hT9 kW_share hS9 (lq_of hC hP1 hSS) ⟨Nat.le_of_ble_eq_true rfl, Nat.le_of_ble_eq_true rfl⟩ hl.1 rfl (Nat.le_of_ble_eq_true rfl) hf dW_1114 hSS hA1 (fun k f1 T1 dk1 dn1 H locs hR0 hP1 hSS hz hk => ?_)
  have hP2 := mo_kept hC hP2 hk
  refine lv_istore (lv' := [(5, .int k), (4, .int (nI i)), (3, .ref o), (2, .ref (gm.2.2 0)), (1, .ref (xo_a g)), (0, .ref b)]) hx hb dW_1117 hl (by decide) rfl (fun ls hl => ?_)
  refine lv_aload_n hx hb dW_1119 rfl (lv_at hl 3 rfl) ?_
  refine lv_aload_n hx hb dW_1120 rfl (lv_at hl 5 rfl) ?_
  refine lv_iload hx hb dW_1121 (lv_at hl 1 rfl) ?_
  refine lv_iconst (v := 1) hx hb dW_1123 (by decide) ?_
  refine lv_iadd hx hb dW_1124 ?_
  refine va_sld hx hb hX hbl hbA hSS (lw_in1 hi hL) dW_1125 ?_
  refine lv_aload_n hx hb dW_1126 rfl (lv_at hl 5 rfl) ?_
  refine lv_iload hx hb dW_1127 (lv_at hl 1 rfl) ?_
  refine lv_iconst (v := 2) hx hb dW_1129 (by decide) ?_
  refine lv_iadd hx hb dW_1130 ?_
  refine va_sld hx hb hX hbl hbA hSS (lw_in2 hi hL) dW_1131 ?_
  refine mm_VT hMM rfl hT9 kL_M_share hS9 hK2 hP2 ⟨Nat.le_trans (show dm + 1 ≤ 10 by omega) (Nat.le_of_ble_eq_true rfl), Nat.le_trans (show _ ≤ 1000 by omega) (Nat.le_of_ble_eq_true rfl)⟩ hl.1 rfl (Nat.le_of_ble_eq_true rfl) hf dW_1132 hSS hA2 (fun v S1 H locs hR1 hP2 hSS hz hk2 => ?_)
  have hP1 := xq_kept hC hP1 hk2
  obtain ⟨y, rfl, hkk, hzz, hInv⟩ := tie k (f1 0) T1 dk1 dn1 v S1 hR0 hR1
  refine lv_istore (lv' := [(6, .int y), (5, .int k), (4, .int (nI i)), (3, .ref o), (2, .ref (gm.2.2 0)), (1, .ref (xo_a g)), (0, .ref b)]) hx hb dW_1135 hl (by decide) rfl (fun ls hl => ?_)
  refine lv_aload_n hx hb dW_1137 rfl (lv_at hl 4 rfl) ?_
  refine mm_VT (cM_th l gm S1 ham) rfl hT9 kL_M_thrown hS9 hK2 hP2 ⟨Nat.le_of_ble_eq_true rfl, Nat.le_of_ble_eq_true rfl⟩ hl.1 rfl (Nat.le_of_ble_eq_true rfl) hf dW_1138 hSS hA2 (fun v9 S9 H locs hR9 hP2 hSS hz hk3 => ?_)
  obtain ⟨rfl, e9⟩ := hR9
  rw [e9] at hP2
  have hP1 := xq_kept hC hP1 hk3
  refine lv_iload hx hb dW_1141 (lv_at hl 1 rfl) ?_
  refine lv_icmp_eq (tgt := 1148) hx hb dW_1143 (by decide) (fun hc1 => ?_) (fun hc1 => absurd hkk.symm hc1)
  refine lv_iload hx hb dW_1148 (lv_at hl 1 rfl) ?_
  refine lv_if_ne (tgt := 1165) hx hb dW_1150 (by decide) (fun hc2 => ?_) (fun hc2 => ?_)
  · refine lv_goto (tgt := 1204) hx hb dW_1165 (by decide) ?_
    exact K _ _ _ _ _ _ _ _ hP1 hP2 hSS hInv (lv_sub hl [2, 3, 4, 5, 6] rfl)
  refine lv_aload_n hx hb dW_1153 rfl (lv_at hl 3 rfl) ?_
  refine lv_iconst (v := 0) hx hb dW_1154 (by decide) ?_
  refine va_lald hx hb hK1 hP1 3 0 rfl rfl (by unfold vp_in; decide) dW_1155 ?_
  refine lv_iload hx hb dW_1156 (lv_at hl 0 rfl) ?_
  refine jv_i2l hx hb dW_1158 ?_
  refine jv_lceq (tgt := 1165) hx hb dW_1159 dW_1160 (by decide) (fun hc4 => ?_) (fun hc4 => absurd (hzz hc2) hc4)
  refine lv_goto (tgt := 1204) hx hb dW_1165 (by decide) ?_
  exact K _ _ _ _ _ _ _ _ hP1 hP2 hSS hInv (lv_sub hl [2, 3, 4, 5, 6] rfl)
