/-! the law's cases clear, shuffle, draw -/
set_option maxHeartbeats 4000000 in
set_option maxRecDepth 100000 in
theorem lw_clear {p : Program} {e : Env} {s : State} {m : MethodId} {below : List Frame} {meth : Method} {c : Code} {b L : Nat} {xs : Nat → Int32} {g : xo_E} {gm : mo_E} {o : Nat} {T : Nat → Int64} {dk : Nat → Int32} {dn : Int32} {f : Nat → Int64} {S : mS} {H : Heap} {locs : List Loc} {cells slots i : Nat} {ls : Array Slot} {Q : State → Prop} (l : Launch) (C0 : lw_At p s m meth c b L xs) (hL : L ≤ 2048) (hi : i + 4 ≤ L) (hC : LC s g gm o) (hP1 : va_P g.1 cl_X (xq_W g o T dk dn f) H) (hP2 : va_P gm.1 cl_X (mo_W gm S) H) (hSS : va_S (nw_A s) s.heap H locs) (hl : lv_has ls 8 [(4, .int (nI i)), (3, .ref o), (2, .ref (gm.2.2 0)), (1, .ref (xo_a g)), (0, .ref b)]) (hf : cells + 1 ≤ room_1.cells ∧ slots + 6 ≤ room_1.slots) (res : mu_R) (dd : Nat) (hdd : dd ≤ 9) (hM : mu_M l yA_clear bA_clear 2 (some .int) dd (.ref (xo_a g) :: []) g (xo_F g T dk dn) res) (hno : ∀ E, res ≠ .inl E) (hV : ∀ v T1 k1 n1, res = .inr (v, T1, k1, n1) → ∃ z : Int32, v = some (.int z)) (dm : Nat) (hdm : dm ≤ 9) (R1 : mm_T) (hMM : mm_M l yM_clear bM_clear 2 (some .int) dm (.ref (gm.2.2 0) :: []) gm S R1) (tie : ∀ (z : Int32) (T1 : Nat → Int64) (dk1 : Nat → Int32) (dn1 : Int32) (v : Option Value) (S1 : mS), res = .inr (some (.int z), T1, dk1, dn1) → R1 v S1 → v = some (.int z) ∧ Inv T1 dk1 dn1 S1) (K : ∀ (T1 : Nat → Int64) (dk1 : Nat → Int32) (dn1 : Int32) (f1 : Nat → Int64) (S1 : mS) (H1 : Heap) (locs1 : List Loc) (ls1 : Array Slot), va_P g.1 cl_X (xq_W g o T1 dk1 dn1 f1) H1 → va_P gm.1 cl_X (mo_W gm S1) H1 → va_S (nw_A s) s.heap H1 locs1 → Inv T1 dk1 dn1 S1 → lv_has ls1 8 [(4, .int (nI i)), (3, .ref o), (2, .ref (gm.2.2 0)), (1, .ref (xo_a g)), (0, .ref b)] → W p l e room_1 s m #[Value.ref b] below meth c H1 locs1 (cells + 1) (slots + 6) Q (F0 m 1204 ls1 [])) : W p l e room_1 s m #[Value.ref b] below meth c H locs cells slots Q (F0 m 765 ls []) := by
  obtain ⟨hx, hb, hr, hml, hown, hts, hX, hbl, hlk, -⟩ := id C0
  have hG : ∀ w ∈ gw, w.before #[Value.ref b] s = true := fun w hw => hts w (List.mem_filter.mp hw).1
  have hS9 : CallFix p m c code 8 s #[Value.ref b] gw "HandTablesLaw" := ⟨hx, hb, hml, hown, hG⟩
  have hT9 : ∀ w ∈ gw, w ∈ gw := fun _ h => h
  obtain ⟨hap, ham, ho, hdis, hA1, hA2, hK1, hK2, hTa, hEx, hNc⟩ := id hC
  have hbA : ¬ nw_A s b := fun z => absurd hbl (Nat.not_lt.mpr z)
  refine lv_aload_n hx hb dW_765 rfl (lv_at hl 3 rfl) ?_
  refine wl_V hM rfl hT9 kL_A_clear hS9 (xo_of hC hP1 hSS) (va_recv (q0 := 0) (ci := 0) (q := ("HandTables", T_A, 3)) hK1 hP1 rfl rfl) ⟨Nat.le_trans (show dd + 1 ≤ 10 by omega) (Nat.le_of_ble_eq_true rfl), Nat.le_trans (show _ ≤ 1000 by omega) (Nat.le_of_ble_eq_true rfl)⟩ hl.1 rfl (Nat.le_of_ble_eq_true rfl) hf dW_766 hSS (fun q h => hA1 q (Or.inr h)) hno (fun v T1 dk1 dn1 H locs hres h1 hSS hz hk => ?_)
  obtain ⟨z, rfl⟩ := hV v T1 dk1 dn1 hres
  have hP2 := mo_kept hC hP2 (fun q a1 a2 => hk q a1 (fun a3 => a2 (Or.inr a3)))
  have hP1 := xq_back hC hP1 h1 hk
  refine lv_aload_n hx hb dW_769 rfl (lv_at hl 2 rfl) ?_
  refine mm_VT hMM rfl hT9 kL_M_clear hS9 hK2 hP2 ⟨Nat.le_trans (show dm + 1 ≤ 10 by omega) (Nat.le_of_ble_eq_true rfl), Nat.le_trans (show _ ≤ 1000 by omega) (Nat.le_of_ble_eq_true rfl)⟩ hl.1 rfl (Nat.le_of_ble_eq_true rfl) hf dW_770 hSS hA2 (fun v2 S1 H locs hR1 hP2 hSS hz hk2 => ?_)
  have hP1 := xq_kept hC hP1 hk2
  obtain ⟨rfl, hInv⟩ := tie z T1 dk1 dn1 v2 S1 hres hR1
  refine lv_icmp_eq (tgt := 1204) hx hb dW_773 (by decide) (fun hc1 => ?_) (fun hc1 => absurd rfl hc1)
  exact K _ _ _ _ _ _ _ _ hP1 hP2 hSS hInv hl
set_option maxHeartbeats 4000000 in
set_option maxRecDepth 100000 in
theorem lw_draw {p : Program} {e : Env} {s : State} {m : MethodId} {below : List Frame} {meth : Method} {c : Code} {b L : Nat} {xs : Nat → Int32} {g : xo_E} {gm : mo_E} {o : Nat} {T : Nat → Int64} {dk : Nat → Int32} {dn : Int32} {f : Nat → Int64} {S : mS} {H : Heap} {locs : List Loc} {cells slots i : Nat} {ls : Array Slot} {Q : State → Prop} (l : Launch) (C0 : lw_At p s m meth c b L xs) (hL : L ≤ 2048) (hi : i + 4 ≤ L) (hC : LC s g gm o) (hP1 : va_P g.1 cl_X (xq_W g o T dk dn f) H) (hP2 : va_P gm.1 cl_X (mo_W gm S) H) (hSS : va_S (nw_A s) s.heap H locs) (hl : lv_has ls 8 [(4, .int (nI i)), (3, .ref o), (2, .ref (gm.2.2 0)), (1, .ref (xo_a g)), (0, .ref b)]) (hf : cells + 1 ≤ room_1.cells ∧ slots + 6 ≤ room_1.slots) (res : mu_R) (dd : Nat) (hdd : dd ≤ 9) (hM : mu_M l yA_draw bA_draw 2 (some .int) dd (.ref (xo_a g) :: []) g (xo_F g T dk dn) res) (hno : ∀ E, res ≠ .inl E) (hV : ∀ v T1 k1 n1, res = .inr (v, T1, k1, n1) → ∃ z : Int32, v = some (.int z)) (dm : Nat) (hdm : dm ≤ 9) (R1 : mm_T) (hMM : mm_M l yM_draw bM_draw 1 (some .int) dm (.ref (gm.2.2 0) :: []) gm S R1) (tie : ∀ (z : Int32) (T1 : Nat → Int64) (dk1 : Nat → Int32) (dn1 : Int32) (v : Option Value) (S1 : mS), res = .inr (some (.int z), T1, dk1, dn1) → R1 v S1 → v = some (.int z) ∧ Inv T1 dk1 dn1 S1) (K : ∀ (T1 : Nat → Int64) (dk1 : Nat → Int32) (dn1 : Int32) (f1 : Nat → Int64) (S1 : mS) (H1 : Heap) (locs1 : List Loc) (ls1 : Array Slot), va_P g.1 cl_X (xq_W g o T1 dk1 dn1 f1) H1 → va_P gm.1 cl_X (mo_W gm S1) H1 → va_S (nw_A s) s.heap H1 locs1 → Inv T1 dk1 dn1 S1 → lv_has ls1 8 [(4, .int (nI i)), (3, .ref o), (2, .ref (gm.2.2 0)), (1, .ref (xo_a g)), (0, .ref b)] → W p l e room_1 s m #[Value.ref b] below meth c H1 locs1 (cells + 1) (slots + 6) Q (F0 m 1204 ls1 [])) : W p l e room_1 s m #[Value.ref b] below meth c H locs cells slots Q (F0 m 1191 ls []) := by
  obtain ⟨hx, hb, hr, hml, hown, hts, hX, hbl, hlk, -⟩ := id C0
  have hG : ∀ w ∈ gw, w.before #[Value.ref b] s = true := fun w hw => hts w (List.mem_filter.mp hw).1
  have hS9 : CallFix p m c code 8 s #[Value.ref b] gw "HandTablesLaw" := ⟨hx, hb, hml, hown, hG⟩
  have hT9 : ∀ w ∈ gw, w ∈ gw := fun _ h => h
  obtain ⟨hap, ham, ho, hdis, hA1, hA2, hK1, hK2, hTa, hEx, hNc⟩ := id hC
  have hbA : ¬ nw_A s b := fun z => absurd hbl (Nat.not_lt.mpr z)
  refine lv_aload_n hx hb dW_1191 rfl (lv_at hl 3 rfl) ?_
  refine wl_V hM rfl hT9 kL_A_draw hS9 (xo_of hC hP1 hSS) (va_recv (q0 := 0) (ci := 0) (q := ("HandTables", T_A, 3)) hK1 hP1 rfl rfl) ⟨Nat.le_trans (show dd + 1 ≤ 10 by omega) (Nat.le_of_ble_eq_true rfl), Nat.le_trans (show _ ≤ 1000 by omega) (Nat.le_of_ble_eq_true rfl)⟩ hl.1 rfl (Nat.le_of_ble_eq_true rfl) hf dW_1192 hSS (fun q h => hA1 q (Or.inr h)) hno (fun v T1 dk1 dn1 H locs hres h1 hSS hz hk => ?_)
  obtain ⟨z, rfl⟩ := hV v T1 dk1 dn1 hres
  have hP2 := mo_kept hC hP2 (fun q a1 a2 => hk q a1 (fun a3 => a2 (Or.inr a3)))
  have hP1 := xq_back hC hP1 h1 hk
  refine lv_aload_n hx hb dW_1195 rfl (lv_at hl 2 rfl) ?_
  refine mm_VT hMM rfl hT9 kL_M_draw hS9 hK2 hP2 ⟨Nat.le_trans (show dm + 1 ≤ 10 by omega) (Nat.le_of_ble_eq_true rfl), Nat.le_trans (show _ ≤ 1000 by omega) (Nat.le_of_ble_eq_true rfl)⟩ hl.1 rfl (Nat.le_of_ble_eq_true rfl) hf dW_1196 hSS hA2 (fun v2 S1 H locs hR1 hP2 hSS hz hk2 => ?_)
  have hP1 := xq_kept hC hP1 hk2
  obtain ⟨rfl, hInv⟩ := tie z T1 dk1 dn1 v2 S1 hres hR1
  refine lv_icmp_eq (tgt := 1204) hx hb dW_1199 (by decide) (fun hc1 => ?_) (fun hc1 => absurd rfl hc1)
  exact K _ _ _ _ _ _ _ _ hP1 hP2 hSS hInv hl
set_option maxHeartbeats 4000000 in
set_option maxRecDepth 100000 in
theorem lw_shuffle {p : Program} {e : Env} {s : State} {m : MethodId} {below : List Frame} {meth : Method} {c : Code} {b L : Nat} {xs : Nat → Int32} {g : xo_E} {gm : mo_E} {o : Nat} {T : Nat → Int64} {dk : Nat → Int32} {dn : Int32} {f : Nat → Int64} {S : mS} {H : Heap} {locs : List Loc} {cells slots i : Nat} {ls : Array Slot} {Q : State → Prop} (l : Launch) (C0 : lw_At p s m meth c b L xs) (hL : L ≤ 2048) (hi : i + 4 ≤ L) (hC : LC s g gm o) (hP1 : va_P g.1 cl_X (xq_W g o T dk dn f) H) (hP2 : va_P gm.1 cl_X (mo_W gm S) H) (hSS : va_S (nw_A s) s.heap H locs) (hl : lv_has ls 8 [(4, .int (nI i)), (3, .ref o), (2, .ref (gm.2.2 0)), (1, .ref (xo_a g)), (0, .ref b)]) (hf : cells + 1 ≤ room_1.cells ∧ slots + 6 ≤ room_1.slots) (T1 : Nat → Int64) (dk1 : Nat → Int32) (dn1 : Int32) (dd : Nat) (hdd : dd ≤ 9) (hM : mw_M l yA_shuffle bA_shuffle 6 none dd (.ref (xo_a g) :: [.int (lw_j xs i 1)]) g (xw_F g T dk dn) (.inr (none, T1, dk1, dn1))) (dm : Nat) (hdm : dm ≤ 9) (R1 : mm_T) (hMM : mm_M l yM_shuffle bM_shuffle 6 none dm (.ref (gm.2.2 0) :: [.int (lw_j xs i 1)]) gm S R1) (tie : ∀ (v : Option Value) (S1 : mS), R1 v S1 → v = none ∧ Inv T1 dk1 dn1 S1) (K : ∀ (T1 : Nat → Int64) (dk1 : Nat → Int32) (dn1 : Int32) (f1 : Nat → Int64) (S1 : mS) (H1 : Heap) (locs1 : List Loc) (ls1 : Array Slot), va_P g.1 cl_X (xq_W g o T1 dk1 dn1 f1) H1 → va_P gm.1 cl_X (mo_W gm S1) H1 → va_S (nw_A s) s.heap H1 locs1 → Inv T1 dk1 dn1 S1 → lv_has ls1 8 [(4, .int (nI i)), (3, .ref o), (2, .ref (gm.2.2 0)), (1, .ref (xo_a g)), (0, .ref b)] → W p l e room_1 s m #[Value.ref b] below meth c H1 locs1 (cells + 1) (slots + 6) Q (F0 m 1204 ls1 [])) : W p l e room_1 s m #[Value.ref b] below meth c H locs cells slots Q (F0 m 1168 ls []) := by
  obtain ⟨hx, hb, hr, hml, hown, hts, hX, hbl, hlk, -⟩ := id C0
  have hG : ∀ w ∈ gw, w.before #[Value.ref b] s = true := fun w hw => hts w (List.mem_filter.mp hw).1
  have hS9 : CallFix p m c code 8 s #[Value.ref b] gw "HandTablesLaw" := ⟨hx, hb, hml, hown, hG⟩
  have hT9 : ∀ w ∈ gw, w ∈ gw := fun _ h => h
  obtain ⟨hap, ham, ho, hdis, hA1, hA2, hK1, hK2, hTa, hEx, hNc⟩ := id hC
  have hbA : ¬ nw_A s b := fun z => absurd hbl (Nat.not_lt.mpr z)
  refine lv_aload_n hx hb dW_1168 rfl (lv_at hl 3 rfl) ?_
  refine lv_aload_n hx hb dW_1169 rfl (lv_at hl 4 rfl) ?_
  refine lv_iload hx hb dW_1170 (lv_at hl 0 rfl) ?_
  refine lv_iconst (v := 1) hx hb dW_1172 (by decide) ?_
  refine lv_iadd hx hb dW_1173 ?_
  refine va_sld hx hb hX hbl hbA hSS (lw_in1 hi hL) dW_1174 ?_
  refine wl_W hM rfl hT9 kL_A_shuffle hS9 (fun U hU hW => ⟨(xo_of hC hP1 hSS U hU hW).2.2.1, (xo_of hC hP1 hSS U hU hW).2.2.2⟩) (va_recv (q0 := 0) (ci := 0) (q := ("HandTables", T_A, 3)) hK1 hP1 rfl rfl) ⟨Nat.le_trans (show dd + 1 ≤ 10 by omega) (Nat.le_of_ble_eq_true rfl), Nat.le_trans (show _ ≤ 1000 by omega) (Nat.le_of_ble_eq_true rfl)⟩ hl.1 rfl (Nat.le_of_ble_eq_true rfl) ⟨Nat.le_of_succ_le hf.1, Nat.le_trans (Nat.le_add_right _ _) hf.2⟩ dW_1175 hSS (fun q h => hA1 q (Or.inr h)) (fun H locs h1 hSS hz hk => ?_)
  have hP2 := mo_kept hC hP2 (fun q a1 a2 => hk q a1 (fun a3 => a2 (Or.inr a3)))
  have hP1 := xq_back hC hP1 h1 hk
  refine lv_aload_n hx hb dW_1178 rfl (lv_at hl 2 rfl) ?_
  refine lv_aload_n hx hb dW_1179 rfl (lv_at hl 4 rfl) ?_
  refine lv_iload hx hb dW_1180 (lv_at hl 0 rfl) ?_
  refine lv_iconst (v := 1) hx hb dW_1182 (by decide) ?_
  refine lv_iadd hx hb dW_1183 ?_
  refine va_sld hx hb hX hbl hbA hSS (lw_in1 hi hL) dW_1184 ?_
  refine mm_VT hMM rfl hT9 kL_M_shuffle hS9 hK2 hP2 ⟨Nat.le_trans (show dm + 1 ≤ 10 by omega) (Nat.le_of_ble_eq_true rfl), Nat.le_trans (show _ ≤ 1000 by omega) (Nat.le_of_ble_eq_true rfl)⟩ hl.1 rfl (Nat.le_of_ble_eq_true rfl) ⟨Nat.le_of_succ_le hf.1, Nat.le_trans (Nat.le_add_right _ _) hf.2⟩ dW_1185 hSS hA2 (fun v2 S1 H locs hR1 hP2 hSS hz hk2 => ?_)
  have hP1 := xq_kept hC hP1 hk2
  obtain ⟨rfl, hInv⟩ := tie v2 S1 hR1
  refine lv_goto (tgt := 1204) hx hb dW_1188 (by decide) ?_
  exact W.widen (Nat.le_add_right _ _) (Nat.le_add_right _ _) (K _ _ _ _ _ _ _ _ hP1 hP2 hSS hInv hl)
