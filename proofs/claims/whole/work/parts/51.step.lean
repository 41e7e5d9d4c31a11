/-! a step of the law -/
set_option maxHeartbeats 4000000 in
set_option maxRecDepth 100000 in
theorem ls_value {p : Program} {e : Env} {s : State} {m : MethodId} {below : List Frame} {meth : Method} {c : Code} {bq L : Nat} {xs : Nat → Int32} {g : xo_E} {gm : mo_E} {o : Nat} {T : Nat → Int64} {ck : Nat → Int32} {cn : Int32} {f : Nat → Int64} {S : mS} {H : Heap} {locs : List Loc} {cells slots i : Nat} {ls : Array Slot} {Q : State → Prop} (l : Launch) (hst : l.stackTraces = false) (C0 : lw_At p s m meth c bq L xs) (hL : L ≤ 2048) (hi : i + 4 ≤ L) (hC : LC s g gm o) (hP1 : va_P g.1 cl_X (xq_W g o T ck cn f) H) (hP2 : va_P gm.1 cl_X (mo_W gm S) H) (hSS : va_S (nw_A s) s.heap H locs) (hl : lv_has ls 8 [(4, .int (nI i)), (3, .ref o), (2, .ref (gm.2.2 0)), (1, .ref (xo_a g)), (0, .ref bq)]) (hf : cells + 1 ≤ room_1.cells ∧ slots + 6 ≤ room_1.slots) (hInv : Inv T ck cn S) (K : ∀ (T1 : Nat → Int64) (dk1 : Nat → Int32) (dn1 : Int32) (f1 : Nat → Int64) (S1 : mS) (H1 : Heap) (locs1 : List Loc) (ls1 : Array Slot), va_P g.1 cl_X (xq_W g o T1 dk1 dn1 f1) H1 → va_P gm.1 cl_X (mo_W gm S1) H1 → va_S (nw_A s) s.heap H1 locs1 → Inv T1 dk1 dn1 S1 → lv_has ls1 8 [(4, .int (nI i)), (3, .ref o), (2, .ref (gm.2.2 0)), (1, .ref (xo_a g)), (0, .ref bq)] → W p l e room_1 s m #[Value.ref bq] below meth c H1 locs1 (cells + 1) (slots + 6) Q (F0 m 1204 ls1 [])) : W p l e room_1 s m #[Value.ref bq] below meth c H locs cells slots Q (F0 m 128 ls []) := by
  obtain ⟨th, ks, kc, rn, oc, hd, hs, se, bd, b, dk, j, ct, bo, wi, sh, lf, lc, mo, ah, rfl, hI⟩ := hInv
  have hap := hC.1
  have ham := hC.2.1
  exact lw_value l C0 hL hi hC hP1 hP2 hSS hl hf _ 7 (by decide) (px_mu (cA_value l g T ck cn (lw_x xs i) hst)) (fun E h => by
    (try simp only [px_up_ite, px_up_l, px_up_r] at h)
    repeat' split at h
    all_goals first | (cases h; done) | (cases h; first | rfl | exact Or.inl rfl | exact Or.inr rfl | exact Or.inr (Or.inl rfl) | exact Or.inr (Or.inr rfl))) (fun v T1 k1 n1 h => by
    (try simp only [px_up_ite, px_up_l, px_up_r] at h)
    repeat' split at h
    all_goals first | (cases h; done) | (cases h; exact ⟨_, rfl⟩)) 4 (by decide) _ (cM_value l gm th ks kc rn oc hd hs se bd (nI b) dk (nI j) ct bo wi sh lf lc mo ah (lw_x xs i) ham) (tie_value (th := th) (ks := ks) (kc := kc) (rn := rn) (oc := oc) (hd := hd) (hs := hs) (se := se) (bd := bd) (dk := dk) (ct := ct) (bo := bo) (wi := wi) (sh := sh) (lf := lf) (lc := lc) (mo := mo) (ah := ah) (b := b) (j := j) hI (lw_x xs i)) K
set_option maxHeartbeats 4000000 in
set_option maxRecDepth 100000 in
theorem ls_category {p : Program} {e : Env} {s : State} {m : MethodId} {below : List Frame} {meth : Method} {c : Code} {bq L : Nat} {xs : Nat → Int32} {g : xo_E} {gm : mo_E} {o : Nat} {T : Nat → Int64} {ck : Nat → Int32} {cn : Int32} {f : Nat → Int64} {S : mS} {H : Heap} {locs : List Loc} {cells slots i : Nat} {ls : Array Slot} {Q : State → Prop} (l : Launch) (hst : l.stackTraces = false) (C0 : lw_At p s m meth c bq L xs) (hL : L ≤ 2048) (hi : i + 4 ≤ L) (hC : LC s g gm o) (hP1 : va_P g.1 cl_X (xq_W g o T ck cn f) H) (hP2 : va_P gm.1 cl_X (mo_W gm S) H) (hSS : va_S (nw_A s) s.heap H locs) (hl : lv_has ls 8 [(4, .int (nI i)), (3, .ref o), (2, .ref (gm.2.2 0)), (1, .ref (xo_a g)), (0, .ref bq)]) (hf : cells + 1 ≤ room_1.cells ∧ slots + 6 ≤ room_1.slots) (hInv : Inv T ck cn S) (K : ∀ (T1 : Nat → Int64) (dk1 : Nat → Int32) (dn1 : Int32) (f1 : Nat → Int64) (S1 : mS) (H1 : Heap) (locs1 : List Loc) (ls1 : Array Slot), va_P g.1 cl_X (xq_W g o T1 dk1 dn1 f1) H1 → va_P gm.1 cl_X (mo_W gm S1) H1 → va_S (nw_A s) s.heap H1 locs1 → Inv T1 dk1 dn1 S1 → lv_has ls1 8 [(4, .int (nI i)), (3, .ref o), (2, .ref (gm.2.2 0)), (1, .ref (xo_a g)), (0, .ref bq)] → W p l e room_1 s m #[Value.ref bq] below meth c H1 locs1 (cells + 1) (slots + 6) Q (F0 m 1204 ls1 [])) : W p l e room_1 s m #[Value.ref bq] below meth c H locs cells slots Q (F0 m 216 ls []) := by
  obtain ⟨th, ks, kc, rn, oc, hd, hs, se, bd, b, dk, j, ct, bo, wi, sh, lf, lc, mo, ah, rfl, hI⟩ := hInv
  have hap := hC.1
  have ham := hC.2.1
  exact lw_category l C0 hL hi hC hP1 hP2 hSS hl hf _ 7 (by decide) (px_mu (cA_category l g T ck cn (lw_x xs i) hst)) (fun E h => by
    (try simp only [px_up_ite, px_up_l, px_up_r] at h)
    repeat' split at h
    all_goals first | (cases h; done) | (cases h; first | rfl | exact Or.inl rfl | exact Or.inr rfl | exact Or.inr (Or.inl rfl) | exact Or.inr (Or.inr rfl))) (fun v T1 k1 n1 h => by
    (try simp only [px_up_ite, px_up_l, px_up_r] at h)
    repeat' split at h
    all_goals first | (cases h; done) | (cases h; exact ⟨_, rfl⟩)) 4 (by decide) _ (cM_category l gm th ks kc rn oc hd hs se bd (nI b) dk (nI j) ct bo wi sh lf lc mo ah (lw_x xs i) ham) (tie_category (th := th) (ks := ks) (kc := kc) (rn := rn) (oc := oc) (hd := hd) (hs := hs) (se := se) (bd := bd) (dk := dk) (ct := ct) (bo := bo) (wi := wi) (sh := sh) (lf := lf) (lc := lc) (mo := mo) (ah := ah) (b := b) (j := j) hI (lw_x xs i)) K
set_option maxHeartbeats 4000000 in
set_option maxRecDepth 100000 in
theorem ls_best {p : Program} {e : Env} {s : State} {m : MethodId} {below : List Frame} {meth : Method} {c : Code} {bq L : Nat} {xs : Nat → Int32} {g : xo_E} {gm : mo_E} {o : Nat} {T : Nat → Int64} {ck : Nat → Int32} {cn : Int32} {f : Nat → Int64} {S : mS} {H : Heap} {locs : List Loc} {cells slots i : Nat} {ls : Array Slot} {Q : State → Prop} (l : Launch) (hst : l.stackTraces = false) (C0 : lw_At p s m meth c bq L xs) (hL : L ≤ 2048) (hi : i + 4 ≤ L) (hC : LC s g gm o) (hP1 : va_P g.1 cl_X (xq_W g o T ck cn f) H) (hP2 : va_P gm.1 cl_X (mo_W gm S) H) (hSS : va_S (nw_A s) s.heap H locs) (hl : lv_has ls 8 [(4, .int (nI i)), (3, .ref o), (2, .ref (gm.2.2 0)), (1, .ref (xo_a g)), (0, .ref bq)]) (hf : cells + 1 ≤ room_1.cells ∧ slots + 6 ≤ room_1.slots) (hInv : Inv T ck cn S) (K : ∀ (T1 : Nat → Int64) (dk1 : Nat → Int32) (dn1 : Int32) (f1 : Nat → Int64) (S1 : mS) (H1 : Heap) (locs1 : List Loc) (ls1 : Array Slot), va_P g.1 cl_X (xq_W g o T1 dk1 dn1 f1) H1 → va_P gm.1 cl_X (mo_W gm S1) H1 → va_S (nw_A s) s.heap H1 locs1 → Inv T1 dk1 dn1 S1 → lv_has ls1 8 [(4, .int (nI i)), (3, .ref o), (2, .ref (gm.2.2 0)), (1, .ref (xo_a g)), (0, .ref bq)] → W p l e room_1 s m #[Value.ref bq] below meth c H1 locs1 (cells + 1) (slots + 6) Q (F0 m 1204 ls1 [])) : W p l e room_1 s m #[Value.ref bq] below meth c H locs cells slots Q (F0 m 304 ls []) := by
  obtain ⟨th, ks, kc, rn, oc, hd, hs, se, bd, b, dk, j, ct, bo, wi, sh, lf, lc, mo, ah, rfl, hI⟩ := hInv
  have hap := hC.1
  have ham := hC.2.1
  exact lw_best l C0 hL hi hC hP1 hP2 hSS hl hf _ 7 (by decide) (px_mu (cA_best l g T ck cn (lw_x xs i) hst)) (fun E h => by
    (try simp only [px_up_ite, px_up_l, px_up_r] at h)
    repeat' split at h
    all_goals first | (cases h; done) | (cases h; first | rfl | exact Or.inl rfl | exact Or.inr rfl | exact Or.inr (Or.inl rfl) | exact Or.inr (Or.inr rfl))) (fun v T1 k1 n1 h => by
    (try simp only [px_up_ite, px_up_l, px_up_r] at h)
    repeat' split at h
    all_goals first | (cases h; done) | (cases h; exact ⟨_, rfl⟩)) 4 (by decide) _ (cM_best l gm th ks kc rn oc hd hs se bd (nI b) dk (nI j) ct bo wi sh lf lc mo ah (lw_x xs i) ham) (tie_best (th := th) (ks := ks) (kc := kc) (rn := rn) (oc := oc) (hd := hd) (hs := hs) (se := se) (bd := bd) (dk := dk) (ct := ct) (bo := bo) (wi := wi) (sh := sh) (lf := lf) (lc := lc) (mo := mo) (ah := ah) (b := b) (j := j) hI (lw_x xs i)) K
set_option maxHeartbeats 4000000 in
set_option maxRecDepth 100000 in
theorem ls_worth {p : Program} {e : Env} {s : State} {m : MethodId} {below : List Frame} {meth : Method} {c : Code} {bq L : Nat} {xs : Nat → Int32} {g : xo_E} {gm : mo_E} {o : Nat} {T : Nat → Int64} {ck : Nat → Int32} {cn : Int32} {f : Nat → Int64} {S : mS} {H : Heap} {locs : List Loc} {cells slots i : Nat} {ls : Array Slot} {Q : State → Prop} (l : Launch) (hst : l.stackTraces = false) (C0 : lw_At p s m meth c bq L xs) (hL : L ≤ 2048) (hi : i + 4 ≤ L) (hC : LC s g gm o) (hP1 : va_P g.1 cl_X (xq_W g o T ck cn f) H) (hP2 : va_P gm.1 cl_X (mo_W gm S) H) (hSS : va_S (nw_A s) s.heap H locs) (hl : lv_has ls 8 [(4, .int (nI i)), (3, .ref o), (2, .ref (gm.2.2 0)), (1, .ref (xo_a g)), (0, .ref bq)]) (hf : cells + 1 ≤ room_1.cells ∧ slots + 6 ≤ room_1.slots) (hInv : Inv T ck cn S) (K : ∀ (T1 : Nat → Int64) (dk1 : Nat → Int32) (dn1 : Int32) (f1 : Nat → Int64) (S1 : mS) (H1 : Heap) (locs1 : List Loc) (ls1 : Array Slot), va_P g.1 cl_X (xq_W g o T1 dk1 dn1 f1) H1 → va_P gm.1 cl_X (mo_W gm S1) H1 → va_S (nw_A s) s.heap H1 locs1 → Inv T1 dk1 dn1 S1 → lv_has ls1 8 [(4, .int (nI i)), (3, .ref o), (2, .ref (gm.2.2 0)), (1, .ref (xo_a g)), (0, .ref bq)] → W p l e room_1 s m #[Value.ref bq] below meth c H1 locs1 (cells + 1) (slots + 6) Q (F0 m 1204 ls1 [])) : W p l e room_1 s m #[Value.ref bq] below meth c H locs cells slots Q (F0 m 391 ls []) := by
  obtain ⟨th, ks, kc, rn, oc, hd, hs, se, bd, b, dk, j, ct, bo, wi, sh, lf, lc, mo, ah, rfl, hI⟩ := hInv
  have hap := hC.1
  have ham := hC.2.1
  exact lw_worth l C0 hL hi hC hP1 hP2 hSS hl hf _ 7 (by decide) (px_mu (cA_worth l g T ck cn (lw_j xs i 1) hst)) (fun E h => by
    (try simp only [px_up_ite, px_up_l, px_up_r] at h)
    repeat' split at h
    all_goals first | (cases h; done) | (cases h; first | rfl | exact Or.inl rfl | exact Or.inr rfl | exact Or.inr (Or.inl rfl) | exact Or.inr (Or.inr rfl))) (fun v T1 k1 n1 h => by
    (try simp only [px_up_ite, px_up_l, px_up_r] at h)
    repeat' split at h
    all_goals first | (cases h; done) | (cases h; exact ⟨_, rfl⟩)) 1 (by decide) _ (cM_worth l gm th ks kc rn oc hd hs se bd (nI b) dk (nI j) ct bo wi sh lf lc mo ah (lw_j xs i 1) ham) (tie_worth (th := th) (ks := ks) (kc := kc) (rn := rn) (oc := oc) (hd := hd) (hs := hs) (se := se) (bd := bd) (dk := dk) (ct := ct) (bo := bo) (wi := wi) (sh := sh) (lf := lf) (lc := lc) (mo := mo) (ah := ah) (b := b) (j := j) hI (lw_j xs i 1)) K
set_option maxHeartbeats 4000000 in
set_option maxRecDepth 100000 in
theorem ls_sets {p : Program} {e : Env} {s : State} {m : MethodId} {below : List Frame} {meth : Method} {c : Code} {bq L : Nat} {xs : Nat → Int32} {g : xo_E} {gm : mo_E} {o : Nat} {T : Nat → Int64} {ck : Nat → Int32} {cn : Int32} {f : Nat → Int64} {S : mS} {H : Heap} {locs : List Loc} {cells slots i : Nat} {ls : Array Slot} {Q : State → Prop} (l : Launch) (hst : l.stackTraces = false) (C0 : lw_At p s m meth c bq L xs) (hL : L ≤ 2048) (hi : i + 4 ≤ L) (hC : LC s g gm o) (hP1 : va_P g.1 cl_X (xq_W g o T ck cn f) H) (hP2 : va_P gm.1 cl_X (mo_W gm S) H) (hSS : va_S (nw_A s) s.heap H locs) (hl : lv_has ls 8 [(4, .int (nI i)), (3, .ref o), (2, .ref (gm.2.2 0)), (1, .ref (xo_a g)), (0, .ref bq)]) (hf : cells + 1 ≤ room_1.cells ∧ slots + 6 ≤ room_1.slots) (hInv : Inv T ck cn S) (K : ∀ (T1 : Nat → Int64) (dk1 : Nat → Int32) (dn1 : Int32) (f1 : Nat → Int64) (S1 : mS) (H1 : Heap) (locs1 : List Loc) (ls1 : Array Slot), va_P g.1 cl_X (xq_W g o T1 dk1 dn1 f1) H1 → va_P gm.1 cl_X (mo_W gm S1) H1 → va_S (nw_A s) s.heap H1 locs1 → Inv T1 dk1 dn1 S1 → lv_has ls1 8 [(4, .int (nI i)), (3, .ref o), (2, .ref (gm.2.2 0)), (1, .ref (xo_a g)), (0, .ref bq)] → W p l e room_1 s m #[Value.ref bq] below meth c H1 locs1 (cells + 1) (slots + 6) Q (F0 m 1204 ls1 [])) : W p l e room_1 s m #[Value.ref bq] below meth c H locs cells slots Q (F0 m 447 ls []) := by
  obtain ⟨th, ks, kc, rn, oc, hd, hs, se, bd, b, dk, j, ct, bo, wi, sh, lf, lc, mo, ah, rfl, hI⟩ := hInv
  have hap := hC.1
  have ham := hC.2.1
  exact lw_sets l C0 hL hi hC hP1 hP2 hSS hl hf _ 7 (by decide) (px_mu (cA_sets l g T ck cn (lw_j xs i 1) hst)) (fun E h => by
    (try simp only [px_up_ite, px_up_l, px_up_r] at h)
    repeat' split at h
    all_goals first | (cases h; done) | (cases h; first | rfl | exact Or.inl rfl | exact Or.inr rfl | exact Or.inr (Or.inl rfl) | exact Or.inr (Or.inr rfl))) (fun v T1 k1 n1 h => by
    (try simp only [px_up_ite, px_up_l, px_up_r] at h)
    repeat' split at h
    all_goals first | (cases h; done) | (cases h; exact ⟨_, rfl⟩)) 0 (by decide) _ (cM_sets l gm th ks kc rn oc hd hs se bd (nI b) dk (nI j) ct bo wi sh lf lc mo ah (lw_j xs i 1) ham) (tie_sets (th := th) (ks := ks) (kc := kc) (rn := rn) (oc := oc) (hd := hd) (hs := hs) (se := se) (bd := bd) (dk := dk) (ct := ct) (bo := bo) (wi := wi) (sh := sh) (lf := lf) (lc := lc) (mo := mo) (ah := ah) (b := b) (j := j) hI (lw_j xs i 1)) K
set_option maxHeartbeats 4000000 in
set_option maxRecDepth 100000 in
theorem ls_first {p : Program} {e : Env} {s : State} {m : MethodId} {below : List Frame} {meth : Method} {c : Code} {bq L : Nat} {xs : Nat → Int32} {g : xo_E} {gm : mo_E} {o : Nat} {T : Nat → Int64} {ck : Nat → Int32} {cn : Int32} {f : Nat → Int64} {S : mS} {H : Heap} {locs : List Loc} {cells slots i : Nat} {ls : Array Slot} {Q : State → Prop} (l : Launch) (hst : l.stackTraces = false) (C0 : lw_At p s m meth c bq L xs) (hL : L ≤ 2048) (hi : i + 4 ≤ L) (hC : LC s g gm o) (hP1 : va_P g.1 cl_X (xq_W g o T ck cn f) H) (hP2 : va_P gm.1 cl_X (mo_W gm S) H) (hSS : va_S (nw_A s) s.heap H locs) (hl : lv_has ls 8 [(4, .int (nI i)), (3, .ref o), (2, .ref (gm.2.2 0)), (1, .ref (xo_a g)), (0, .ref bq)]) (hf : cells + 1 ≤ room_1.cells ∧ slots + 6 ≤ room_1.slots) (hInv : Inv T ck cn S) (K : ∀ (T1 : Nat → Int64) (dk1 : Nat → Int32) (dn1 : Int32) (f1 : Nat → Int64) (S1 : mS) (H1 : Heap) (locs1 : List Loc) (ls1 : Array Slot), va_P g.1 cl_X (xq_W g o T1 dk1 dn1 f1) H1 → va_P gm.1 cl_X (mo_W gm S1) H1 → va_S (nw_A s) s.heap H1 locs1 → Inv T1 dk1 dn1 S1 → lv_has ls1 8 [(4, .int (nI i)), (3, .ref o), (2, .ref (gm.2.2 0)), (1, .ref (xo_a g)), (0, .ref bq)] → W p l e room_1 s m #[Value.ref bq] below meth c H1 locs1 (cells + 1) (slots + 6) Q (F0 m 1204 ls1 [])) : W p l e room_1 s m #[Value.ref bq] below meth c H locs cells slots Q (F0 m 503 ls []) := by
  obtain ⟨th, ks, kc, rn, oc, hd, hs, se, bd, b, dk, j, ct, bo, wi, sh, lf, lc, mo, ah, rfl, hI⟩ := hInv
  have hap := hC.1
  have ham := hC.2.1
  exact lw_first l C0 hL hi hC hP1 hP2 hSS hl hf _ 7 (by decide) (px_mu (cA_first l g T ck cn (lw_j xs i 1) hst)) (fun E h => by
    (try simp only [px_up_ite, px_up_l, px_up_r] at h)
    repeat' split at h
    all_goals first | (cases h; done) | (cases h; first | rfl | exact Or.inl rfl | exact Or.inr rfl | exact Or.inr (Or.inl rfl) | exact Or.inr (Or.inr rfl))) (fun v T1 k1 n1 h => by
    (try simp only [px_up_ite, px_up_l, px_up_r] at h)
    repeat' split at h
    all_goals first | (cases h; done) | (cases h; exact ⟨_, rfl⟩)) 1 (by decide) _ (cM_first l gm th ks kc rn oc hd hs se bd (nI b) dk (nI j) ct bo wi sh lf lc mo ah (lw_j xs i 1) ham) (tie_first (th := th) (ks := ks) (kc := kc) (rn := rn) (oc := oc) (hd := hd) (hs := hs) (se := se) (bd := bd) (dk := dk) (ct := ct) (bo := bo) (wi := wi) (sh := sh) (lf := lf) (lc := lc) (mo := mo) (ah := ah) (b := b) (j := j) hI (lw_j xs i 1)) K
set_option maxHeartbeats 4000000 in
set_option maxRecDepth 100000 in
theorem ls_seat {p : Program} {e : Env} {s : State} {m : MethodId} {below : List Frame} {meth : Method} {c : Code} {bq L : Nat} {xs : Nat → Int32} {g : xo_E} {gm : mo_E} {o : Nat} {T : Nat → Int64} {ck : Nat → Int32} {cn : Int32} {f : Nat → Int64} {S : mS} {H : Heap} {locs : List Loc} {cells slots i : Nat} {ls : Array Slot} {Q : State → Prop} (l : Launch) (hst : l.stackTraces = false) (C0 : lw_At p s m meth c bq L xs) (hL : L ≤ 2048) (hi : i + 4 ≤ L) (hC : LC s g gm o) (hP1 : va_P g.1 cl_X (xq_W g o T ck cn f) H) (hP2 : va_P gm.1 cl_X (mo_W gm S) H) (hSS : va_S (nw_A s) s.heap H locs) (hl : lv_has ls 8 [(4, .int (nI i)), (3, .ref o), (2, .ref (gm.2.2 0)), (1, .ref (xo_a g)), (0, .ref bq)]) (hf : cells + 1 ≤ room_1.cells ∧ slots + 6 ≤ room_1.slots) (hInv : Inv T ck cn S) (K : ∀ (T1 : Nat → Int64) (dk1 : Nat → Int32) (dn1 : Int32) (f1 : Nat → Int64) (S1 : mS) (H1 : Heap) (locs1 : List Loc) (ls1 : Array Slot), va_P g.1 cl_X (xq_W g o T1 dk1 dn1 f1) H1 → va_P gm.1 cl_X (mo_W gm S1) H1 → va_S (nw_A s) s.heap H1 locs1 → Inv T1 dk1 dn1 S1 → lv_has ls1 8 [(4, .int (nI i)), (3, .ref o), (2, .ref (gm.2.2 0)), (1, .ref (xo_a g)), (0, .ref bq)] → W p l e room_1 s m #[Value.ref bq] below meth c H1 locs1 (cells + 1) (slots + 6) Q (F0 m 1204 ls1 [])) : W p l e room_1 s m #[Value.ref bq] below meth c H locs cells slots Q (F0 m 559 ls []) := by
  obtain ⟨th, ks, kc, rn, oc, hd, hs, se, bd, b, dk, j, ct, bo, wi, sh, lf, lc, mo, ah, rfl, hI⟩ := hInv
  have hap := hC.1
  have ham := hC.2.1
  exact lw_seat l C0 hL hi hC hP1 hP2 hSS hl hf _ 7 (by decide) (cA_seat l g T ck cn (lw_j xs i 1) (lw_j xs i 2) (lw_j xs i 3) hst hap) (fun E h => by
    (try simp only [px_up_ite, px_up_l, px_up_r] at h)
    repeat' split at h
    all_goals first | (cases h; done) | (cases h; first | rfl | exact Or.inl rfl | exact Or.inr rfl | exact Or.inr (Or.inl rfl) | exact Or.inr (Or.inr rfl))) (fun v T1 k1 n1 h => by
    (try simp only [px_up_ite, px_up_l, px_up_r] at h)
    repeat' split at h
    all_goals first | (cases h; done) | (cases h; exact ⟨_, rfl⟩)) 1 (by decide) _ (cM_seat l gm th ks kc rn oc hd hs se bd b dk (nI j) ct bo wi sh lf lc mo ah (lw_j xs i 1) (lw_j xs i 2) (lw_j xs i 3) ham (by first | exact hI.1 | decide)) (tie_seat (th := th) (ks := ks) (kc := kc) (rn := rn) (oc := oc) (hd := hd) (hs := hs) (se := se) (bd := bd) (dk := dk) (ct := ct) (bo := bo) (wi := wi) (sh := sh) (lf := lf) (lc := lc) (mo := mo) (ah := ah) (b := b) (j := j) hI (lw_j xs i 1) (lw_j xs i 2) (lw_j xs i 3)) K
set_option maxHeartbeats 4000000 in
set_option maxRecDepth 100000 in
theorem ls_leave {p : Program} {e : Env} {s : State} {m : MethodId} {below : List Frame} {meth : Method} {c : Code} {bq L : Nat} {xs : Nat → Int32} {g : xo_E} {gm : mo_E} {o : Nat} {T : Nat → Int64} {ck : Nat → Int32} {cn : Int32} {f : Nat → Int64} {S : mS} {H : Heap} {locs : List Loc} {cells slots i : Nat} {ls : Array Slot} {Q : State → Prop} (l : Launch) (hst : l.stackTraces = false) (C0 : lw_At p s m meth c bq L xs) (hL : L ≤ 2048) (hi : i + 4 ≤ L) (hC : LC s g gm o) (hP1 : va_P g.1 cl_X (xq_W g o T ck cn f) H) (hP2 : va_P gm.1 cl_X (mo_W gm S) H) (hSS : va_S (nw_A s) s.heap H locs) (hl : lv_has ls 8 [(4, .int (nI i)), (3, .ref o), (2, .ref (gm.2.2 0)), (1, .ref (xo_a g)), (0, .ref bq)]) (hf : cells + 1 ≤ room_1.cells ∧ slots + 6 ≤ room_1.slots) (hInv : Inv T ck cn S) (K : ∀ (T1 : Nat → Int64) (dk1 : Nat → Int32) (dn1 : Int32) (f1 : Nat → Int64) (S1 : mS) (H1 : Heap) (locs1 : List Loc) (ls1 : Array Slot), va_P g.1 cl_X (xq_W g o T1 dk1 dn1 f1) H1 → va_P gm.1 cl_X (mo_W gm S1) H1 → va_S (nw_A s) s.heap H1 locs1 → Inv T1 dk1 dn1 S1 → lv_has ls1 8 [(4, .int (nI i)), (3, .ref o), (2, .ref (gm.2.2 0)), (1, .ref (xo_a g)), (0, .ref bq)] → W p l e room_1 s m #[Value.ref bq] below meth c H1 locs1 (cells + 1) (slots + 6) Q (F0 m 1204 ls1 [])) : W p l e room_1 s m #[Value.ref bq] below meth c H locs cells slots Q (F0 m 646 ls []) := by
  obtain ⟨th, ks, kc, rn, oc, hd, hs, se, bd, b, dk, j, ct, bo, wi, sh, lf, lc, mo, ah, rfl, hI⟩ := hInv
  have hap := hC.1
  have ham := hC.2.1
  exact lw_leave l C0 hL hi hC hP1 hP2 hSS hl hf _ 7 (by decide) (cA_leave l g T ck cn (lw_j xs i 1) hst hap) (fun E h => by
    (try simp only [px_up_ite, px_up_l, px_up_r] at h)
    repeat' split at h
    all_goals first | (cases h; done) | (cases h; first | rfl | exact Or.inl rfl | exact Or.inr rfl | exact Or.inr (Or.inl rfl) | exact Or.inr (Or.inr rfl))) (fun v T1 k1 n1 h => by
    (try simp only [px_up_ite, px_up_l, px_up_r] at h)
    repeat' split at h
    all_goals first | (cases h; done) | (cases h; exact ⟨_, rfl⟩)) 1 (by decide) _ (cM_leave l gm th ks kc rn oc hd hs se bd (nI b) dk (nI j) ct bo wi sh lf lc mo ah (lw_j xs i 1) ham) (tie_leave (th := th) (ks := ks) (kc := kc) (rn := rn) (oc := oc) (hd := hd) (hs := hs) (se := se) (bd := bd) (dk := dk) (ct := ct) (bo := bo) (wi := wi) (sh := sh) (lf := lf) (lc := lc) (mo := mo) (ah := ah) (b := b) (j := j) hI (lw_j xs i 1)) K
set_option maxHeartbeats 4000000 in
set_option maxRecDepth 100000 in
theorem ls_board {p : Program} {e : Env} {s : State} {m : MethodId} {below : List Frame} {meth : Method} {c : Code} {bq L : Nat} {xs : Nat → Int32} {g : xo_E} {gm : mo_E} {o : Nat} {T : Nat → Int64} {ck : Nat → Int32} {cn : Int32} {f : Nat → Int64} {S : mS} {H : Heap} {locs : List Loc} {cells slots i : Nat} {ls : Array Slot} {Q : State → Prop} (l : Launch) (hst : l.stackTraces = false) (C0 : lw_At p s m meth c bq L xs) (hL : L ≤ 2048) (hi : i + 4 ≤ L) (hC : LC s g gm o) (hP1 : va_P g.1 cl_X (xq_W g o T ck cn f) H) (hP2 : va_P gm.1 cl_X (mo_W gm S) H) (hSS : va_S (nw_A s) s.heap H locs) (hl : lv_has ls 8 [(4, .int (nI i)), (3, .ref o), (2, .ref (gm.2.2 0)), (1, .ref (xo_a g)), (0, .ref bq)]) (hf : cells + 1 ≤ room_1.cells ∧ slots + 6 ≤ room_1.slots) (hInv : Inv T ck cn S) (K : ∀ (T1 : Nat → Int64) (dk1 : Nat → Int32) (dn1 : Int32) (f1 : Nat → Int64) (S1 : mS) (H1 : Heap) (locs1 : List Loc) (ls1 : Array Slot), va_P g.1 cl_X (xq_W g o T1 dk1 dn1 f1) H1 → va_P gm.1 cl_X (mo_W gm S1) H1 → va_S (nw_A s) s.heap H1 locs1 → Inv T1 dk1 dn1 S1 → lv_has ls1 8 [(4, .int (nI i)), (3, .ref o), (2, .ref (gm.2.2 0)), (1, .ref (xo_a g)), (0, .ref bq)] → W p l e room_1 s m #[Value.ref bq] below meth c H1 locs1 (cells + 1) (slots + 6) Q (F0 m 1204 ls1 [])) : W p l e room_1 s m #[Value.ref bq] below meth c H locs cells slots Q (F0 m 709 ls []) := by
  obtain ⟨th, ks, kc, rn, oc, hd, hs, se, bd, b, dk, j, ct, bo, wi, sh, lf, lc, mo, ah, rfl, hI⟩ := hInv
  have hap := hC.1
  have ham := hC.2.1
  exact lw_board l C0 hL hi hC hP1 hP2 hSS hl hf _ 7 (by decide) (cA_board l g T ck cn (lw_j xs i 1) hst hap) (fun E h => by
    (try simp only [px_up_ite, px_up_l, px_up_r] at h)
    repeat' split at h
    all_goals first | (cases h; done) | (cases h; first | rfl | exact Or.inl rfl | exact Or.inr rfl | exact Or.inr (Or.inl rfl) | exact Or.inr (Or.inr rfl))) (fun v T1 k1 n1 h => by
    (try simp only [px_up_ite, px_up_l, px_up_r] at h)
    repeat' split at h
    all_goals first | (cases h; done) | (cases h; exact ⟨_, rfl⟩)) 1 (by decide) _ (cM_board l gm th ks kc rn oc hd hs se bd b dk (nI j) ct bo wi sh lf lc mo ah (lw_j xs i 1) ham (by first | exact hI.1 | decide)) (tie_board (th := th) (ks := ks) (kc := kc) (rn := rn) (oc := oc) (hd := hd) (hs := hs) (se := se) (bd := bd) (dk := dk) (ct := ct) (bo := bo) (wi := wi) (sh := sh) (lf := lf) (lc := lc) (mo := mo) (ah := ah) (b := b) (j := j) hI (lw_j xs i 1)) K
set_option maxHeartbeats 4000000 in
set_option maxRecDepth 100000 in
theorem ls_cards {p : Program} {e : Env} {s : State} {m : MethodId} {below : List Frame} {meth : Method} {c : Code} {bq L : Nat} {xs : Nat → Int32} {g : xo_E} {gm : mo_E} {o : Nat} {T : Nat → Int64} {ck : Nat → Int32} {cn : Int32} {f : Nat → Int64} {S : mS} {H : Heap} {locs : List Loc} {cells slots i : Nat} {ls : Array Slot} {Q : State → Prop} (l : Launch) (hst : l.stackTraces = false) (C0 : lw_At p s m meth c bq L xs) (hL : L ≤ 2048) (hi : i + 4 ≤ L) (hC : LC s g gm o) (hP1 : va_P g.1 cl_X (xq_W g o T ck cn f) H) (hP2 : va_P gm.1 cl_X (mo_W gm S) H) (hSS : va_S (nw_A s) s.heap H locs) (hl : lv_has ls 8 [(4, .int (nI i)), (3, .ref o), (2, .ref (gm.2.2 0)), (1, .ref (xo_a g)), (0, .ref bq)]) (hf : cells + 1 ≤ room_1.cells ∧ slots + 6 ≤ room_1.slots) (hInv : Inv T ck cn S) (K : ∀ (T1 : Nat → Int64) (dk1 : Nat → Int32) (dn1 : Int32) (f1 : Nat → Int64) (S1 : mS) (H1 : Heap) (locs1 : List Loc) (ls1 : Array Slot), va_P g.1 cl_X (xq_W g o T1 dk1 dn1 f1) H1 → va_P gm.1 cl_X (mo_W gm S1) H1 → va_S (nw_A s) s.heap H1 locs1 → Inv T1 dk1 dn1 S1 → lv_has ls1 8 [(4, .int (nI i)), (3, .ref o), (2, .ref (gm.2.2 0)), (1, .ref (xo_a g)), (0, .ref bq)] → W p l e room_1 s m #[Value.ref bq] below meth c H1 locs1 (cells + 1) (slots + 6) Q (F0 m 1204 ls1 [])) : W p l e room_1 s m #[Value.ref bq] below meth c H locs cells slots Q (F0 m 778 ls []) := by
  obtain ⟨th, ks, kc, rn, oc, hd, hs, se, bd, b, dk, j, ct, bo, wi, sh, lf, lc, mo, ah, rfl, hI⟩ := hInv
  have hap := hC.1
  have ham := hC.2.1
  exact lw_cards l C0 hL hi hC hP1 hP2 hSS hl hf _ 7 (by decide) (px_mu (cA_cards l g T ck cn (lw_j xs i 1) hst)) (fun E h => by
    (try simp only [px_up_ite, px_up_l, px_up_r] at h)
    repeat' split at h
    all_goals first | (cases h; done) | (cases h; first | rfl | exact Or.inl rfl | exact Or.inr rfl | exact Or.inr (Or.inl rfl) | exact Or.inr (Or.inr rfl))) (fun v T1 k1 n1 h => by
    (try simp only [px_up_ite, px_up_l, px_up_r] at h)
    repeat' split at h
    all_goals first | (cases h; done) | (cases h; exact ⟨_, rfl⟩)) 1 (by decide) _ (cM_cards l gm th ks kc rn oc hd hs se bd b dk (nI j) ct bo wi sh lf lc mo ah (lw_j xs i 1) ham (by first | exact hI.1 | decide)) (tie_cards (th := th) (ks := ks) (kc := kc) (rn := rn) (oc := oc) (hd := hd) (hs := hs) (se := se) (bd := bd) (dk := dk) (ct := ct) (bo := bo) (wi := wi) (sh := sh) (lf := lf) (lc := lc) (mo := mo) (ah := ah) (b := b) (j := j) hI (lw_j xs i 1)) K
set_option maxHeartbeats 4000000 in
set_option maxRecDepth 100000 in
theorem ls_hand {p : Program} {e : Env} {s : State} {m : MethodId} {below : List Frame} {meth : Method} {c : Code} {bq L : Nat} {xs : Nat → Int32} {g : xo_E} {gm : mo_E} {o : Nat} {T : Nat → Int64} {ck : Nat → Int32} {cn : Int32} {f : Nat → Int64} {S : mS} {H : Heap} {locs : List Loc} {cells slots i : Nat} {ls : Array Slot} {Q : State → Prop} (l : Launch) (hst : l.stackTraces = false) (C0 : lw_At p s m meth c bq L xs) (hL : L ≤ 2048) (hi : i + 4 ≤ L) (hC : LC s g gm o) (hP1 : va_P g.1 cl_X (xq_W g o T ck cn f) H) (hP2 : va_P gm.1 cl_X (mo_W gm S) H) (hSS : va_S (nw_A s) s.heap H locs) (hl : lv_has ls 8 [(4, .int (nI i)), (3, .ref o), (2, .ref (gm.2.2 0)), (1, .ref (xo_a g)), (0, .ref bq)]) (hf : cells + 1 ≤ room_1.cells ∧ slots + 6 ≤ room_1.slots) (hInv : Inv T ck cn S) (K : ∀ (T1 : Nat → Int64) (dk1 : Nat → Int32) (dn1 : Int32) (f1 : Nat → Int64) (S1 : mS) (H1 : Heap) (locs1 : List Loc) (ls1 : Array Slot), va_P g.1 cl_X (xq_W g o T1 dk1 dn1 f1) H1 → va_P gm.1 cl_X (mo_W gm S1) H1 → va_S (nw_A s) s.heap H1 locs1 → Inv T1 dk1 dn1 S1 → lv_has ls1 8 [(4, .int (nI i)), (3, .ref o), (2, .ref (gm.2.2 0)), (1, .ref (xo_a g)), (0, .ref bq)] → W p l e room_1 s m #[Value.ref bq] below meth c H1 locs1 (cells + 1) (slots + 6) Q (F0 m 1204 ls1 [])) : W p l e room_1 s m #[Value.ref bq] below meth c H locs cells slots Q (F0 m 833 ls []) := by
  obtain ⟨th, ks, kc, rn, oc, hd, hs, se, bd, b, dk, j, ct, bo, wi, sh, lf, lc, mo, ah, rfl, hI⟩ := hInv
  have hap := hC.1
  have ham := hC.2.1
  exact lw_hand l C0 hL hi hC hP1 hP2 hSS hl hf _ 7 (by decide) (px_mu (cA_hand l g T ck cn (lw_j xs i 1) hst)) (fun E h => by
    (try simp only [px_up_ite, px_up_l, px_up_r] at h)
    repeat' split at h
    all_goals first | (cases h; done) | (cases h; first | rfl | exact Or.inl rfl | exact Or.inr rfl | exact Or.inr (Or.inl rfl) | exact Or.inr (Or.inr rfl))) (fun v T1 k1 n1 h => by
    (try simp only [px_up_ite, px_up_l, px_up_r] at h)
    repeat' split at h
    all_goals first | (cases h; done) | (cases h; exact ⟨_, rfl⟩)) 5 (by decide) _ (cM_hand l gm th ks kc rn oc hd hs se bd b dk (nI j) ct bo wi sh lf lc mo ah (lw_j xs i 1) ham (by first | exact hI.1 | decide) hI.2.2.2.2.1 hI.2.2.2.1) (tie_hand (th := th) (ks := ks) (kc := kc) (rn := rn) (oc := oc) (hd := hd) (hs := hs) (se := se) (bd := bd) (dk := dk) (ct := ct) (bo := bo) (wi := wi) (sh := sh) (lf := lf) (lc := lc) (mo := mo) (ah := ah) (b := b) (j := j) hI (lw_j xs i 1)) K
set_option maxHeartbeats 4000000 in
set_option maxRecDepth 100000 in
theorem ls_ahead {p : Program} {e : Env} {s : State} {m : MethodId} {below : List Frame} {meth : Method} {c : Code} {bq L : Nat} {xs : Nat → Int32} {g : xo_E} {gm : mo_E} {o : Nat} {T : Nat → Int64} {ck : Nat → Int32} {cn : Int32} {f : Nat → Int64} {S : mS} {H : Heap} {locs : List Loc} {cells slots i : Nat} {ls : Array Slot} {Q : State → Prop} (l : Launch) (hst : l.stackTraces = false) (C0 : lw_At p s m meth c bq L xs) (hL : L ≤ 2048) (hi : i + 4 ≤ L) (hC : LC s g gm o) (hP1 : va_P g.1 cl_X (xq_W g o T ck cn f) H) (hP2 : va_P gm.1 cl_X (mo_W gm S) H) (hSS : va_S (nw_A s) s.heap H locs) (hl : lv_has ls 8 [(4, .int (nI i)), (3, .ref o), (2, .ref (gm.2.2 0)), (1, .ref (xo_a g)), (0, .ref bq)]) (hf : cells + 1 ≤ room_1.cells ∧ slots + 6 ≤ room_1.slots) (hInv : Inv T ck cn S) (K : ∀ (T1 : Nat → Int64) (dk1 : Nat → Int32) (dn1 : Int32) (f1 : Nat → Int64) (S1 : mS) (H1 : Heap) (locs1 : List Loc) (ls1 : Array Slot), va_P g.1 cl_X (xq_W g o T1 dk1 dn1 f1) H1 → va_P gm.1 cl_X (mo_W gm S1) H1 → va_S (nw_A s) s.heap H1 locs1 → Inv T1 dk1 dn1 S1 → lv_has ls1 8 [(4, .int (nI i)), (3, .ref o), (2, .ref (gm.2.2 0)), (1, .ref (xo_a g)), (0, .ref bq)] → W p l e room_1 s m #[Value.ref bq] below meth c H1 locs1 (cells + 1) (slots + 6) Q (F0 m 1204 ls1 [])) : W p l e room_1 s m #[Value.ref bq] below meth c H locs cells slots Q (F0 m 889 ls []) := by
  obtain ⟨th, ks, kc, rn, oc, hd, hs, se, bd, b, dk, j, ct, bo, wi, sh, lf, lc, mo, ah, rfl, hI⟩ := hInv
  have hap := hC.1
  have ham := hC.2.1
  exact lw_ahead l C0 hL hi hC hP1 hP2 hSS hl hf _ 7 (by decide) (px_mu (cA_ahead l g T ck cn  hst)) (fun E h => by
    (try simp only [px_up_ite, px_up_l, px_up_r] at h)
    repeat' split at h
    all_goals first | (cases h; done) | (cases h; first | rfl | exact Or.inl rfl | exact Or.inr rfl | exact Or.inr (Or.inl rfl) | exact Or.inr (Or.inr rfl))) (fun v T1 k1 n1 h => by
    (try simp only [px_up_ite, px_up_l, px_up_r] at h)
    repeat' split at h
    all_goals first | (cases h; done) | (cases h; exact ⟨_, rfl⟩)) 6 (by decide) _ (cM_ahead l gm th ks kc rn oc hd hs se bd b dk (nI j) ct bo wi sh lf lc mo ah  ham (by first | exact hI.1 | decide) hI.2.2.2.2.1 hI.2.2.2.1) (tie_ahead (th := th) (ks := ks) (kc := kc) (rn := rn) (oc := oc) (hd := hd) (hs := hs) (se := se) (bd := bd) (dk := dk) (ct := ct) (bo := bo) (wi := wi) (sh := sh) (lf := lf) (lc := lc) (mo := mo) (ah := ah) (b := b) (j := j) hI ) K
set_option maxHeartbeats 4000000 in
set_option maxRecDepth 100000 in
theorem ls_boards {p : Program} {e : Env} {s : State} {m : MethodId} {below : List Frame} {meth : Method} {c : Code} {bq L : Nat} {xs : Nat → Int32} {g : xo_E} {gm : mo_E} {o : Nat} {T : Nat → Int64} {ck : Nat → Int32} {cn : Int32} {f : Nat → Int64} {S : mS} {H : Heap} {locs : List Loc} {cells slots i : Nat} {ls : Array Slot} {Q : State → Prop} (l : Launch) (hst : l.stackTraces = false) (C0 : lw_At p s m meth c bq L xs) (hL : L ≤ 2048) (hi : i + 4 ≤ L) (hC : LC s g gm o) (hP1 : va_P g.1 cl_X (xq_W g o T ck cn f) H) (hP2 : va_P gm.1 cl_X (mo_W gm S) H) (hSS : va_S (nw_A s) s.heap H locs) (hl : lv_has ls 8 [(4, .int (nI i)), (3, .ref o), (2, .ref (gm.2.2 0)), (1, .ref (xo_a g)), (0, .ref bq)]) (hf : cells + 1 ≤ room_1.cells ∧ slots + 6 ≤ room_1.slots) (hInv : Inv T ck cn S) (K : ∀ (T1 : Nat → Int64) (dk1 : Nat → Int32) (dn1 : Int32) (f1 : Nat → Int64) (S1 : mS) (H1 : Heap) (locs1 : List Loc) (ls1 : Array Slot), va_P g.1 cl_X (xq_W g o T1 dk1 dn1 f1) H1 → va_P gm.1 cl_X (mo_W gm S1) H1 → va_S (nw_A s) s.heap H1 locs1 → Inv T1 dk1 dn1 S1 → lv_has ls1 8 [(4, .int (nI i)), (3, .ref o), (2, .ref (gm.2.2 0)), (1, .ref (xo_a g)), (0, .ref bq)] → W p l e room_1 s m #[Value.ref bq] below meth c H1 locs1 (cells + 1) (slots + 6) Q (F0 m 1204 ls1 [])) : W p l e room_1 s m #[Value.ref bq] below meth c H locs cells slots Q (F0 m 933 ls []) := by
  obtain ⟨th, ks, kc, rn, oc, hd, hs, se, bd, b, dk, j, ct, bo, wi, sh, lf, lc, mo, ah, rfl, hI⟩ := hInv
  have hap := hC.1
  have ham := hC.2.1
  exact lw_boards l C0 hL hi hC hP1 hP2 hSS hl hf _ 7 (by decide) (px_mu (cA_boards l g T ck cn  hst)) (fun E h => by
    (try simp only [px_up_ite, px_up_l, px_up_r] at h)
    repeat' split at h
    all_goals first | (cases h; done) | (cases h; first | rfl | exact Or.inl rfl | exact Or.inr rfl | exact Or.inr (Or.inl rfl) | exact Or.inr (Or.inr rfl))) (fun v T1 k1 n1 h => by
    (try simp only [px_up_ite, px_up_l, px_up_r] at h)
    repeat' split at h
    all_goals first | (cases h; done) | (cases h; exact ⟨_, rfl⟩)) 2 (by decide) _ (cM_boards l gm th ks kc rn oc hd hs se bd b dk (nI j) ct bo wi sh lf lc mo ah  ham (by first | exact hI.1 | decide)) (tie_boards (th := th) (ks := ks) (kc := kc) (rn := rn) (oc := oc) (hd := hd) (hs := hs) (se := se) (bd := bd) (dk := dk) (ct := ct) (bo := bo) (wi := wi) (sh := sh) (lf := lf) (lc := lc) (mo := mo) (ah := ah) (b := b) (j := j) hI ) K
set_option maxHeartbeats 4000000 in
set_option maxRecDepth 100000 in
theorem ls_outs {p : Program} {e : Env} {s : State} {m : MethodId} {below : List Frame} {meth : Method} {c : Code} {bq L : Nat} {xs : Nat → Int32} {g : xo_E} {gm : mo_E} {o : Nat} {T : Nat → Int64} {ck : Nat → Int32} {cn : Int32} {f : Nat → Int64} {S : mS} {H : Heap} {locs : List Loc} {cells slots i : Nat} {ls : Array Slot} {Q : State → Prop} (l : Launch) (hst : l.stackTraces = false) (C0 : lw_At p s m meth c bq L xs) (hL : L ≤ 2048) (hi : i + 4 ≤ L) (hC : LC s g gm o) (hP1 : va_P g.1 cl_X (xq_W g o T ck cn f) H) (hP2 : va_P gm.1 cl_X (mo_W gm S) H) (hSS : va_S (nw_A s) s.heap H locs) (hl : lv_has ls 8 [(4, .int (nI i)), (3, .ref o), (2, .ref (gm.2.2 0)), (1, .ref (xo_a g)), (0, .ref bq)]) (hf : cells + 1 ≤ room_1.cells ∧ slots + 6 ≤ room_1.slots) (hInv : Inv T ck cn S) (K : ∀ (T1 : Nat → Int64) (dk1 : Nat → Int32) (dn1 : Int32) (f1 : Nat → Int64) (S1 : mS) (H1 : Heap) (locs1 : List Loc) (ls1 : Array Slot), va_P g.1 cl_X (xq_W g o T1 dk1 dn1 f1) H1 → va_P gm.1 cl_X (mo_W gm S1) H1 → va_S (nw_A s) s.heap H1 locs1 → Inv T1 dk1 dn1 S1 → lv_has ls1 8 [(4, .int (nI i)), (3, .ref o), (2, .ref (gm.2.2 0)), (1, .ref (xo_a g)), (0, .ref bq)] → W p l e room_1 s m #[Value.ref bq] below meth c H1 locs1 (cells + 1) (slots + 6) Q (F0 m 1204 ls1 [])) : W p l e room_1 s m #[Value.ref bq] below meth c H locs cells slots Q (F0 m 1045 ls []) := by
  obtain ⟨th, ks, kc, rn, oc, hd, hs, se, bd, b, dk, j, ct, bo, wi, sh, lf, lc, mo, ah, rfl, hI⟩ := hInv
  have hap := hC.1
  have ham := hC.2.1
  exact lw_outs l C0 hL hi hC hP1 hP2 hSS hl hf _ 7 (by decide) (px_mu (cA_outs l g T ck cn (lw_j xs i 1) hst)) (fun E h => by
    (try simp only [px_up_ite, px_up_l, px_up_r] at h)
    repeat' split at h
    all_goals first | (cases h; done) | (cases h; first | rfl | exact Or.inl rfl | exact Or.inr rfl | exact Or.inr (Or.inl rfl) | exact Or.inr (Or.inr rfl))) (fun v T1 k1 n1 h => by
    (try simp only [px_up_ite, px_up_l, px_up_r] at h)
    repeat' split at h
    all_goals first | (cases h; done) | (cases h; exact ⟨_, rfl⟩)) 6 (by decide) _ (cM_outs l gm th ks kc rn oc hd hs se bd b dk (nI j) ct bo wi sh lf lc mo ah (lw_j xs i 1) ham (by first | exact hI.1 | decide) hI.2.2.2.2.1 hI.2.2.2.1) (tie_outs (th := th) (ks := ks) (kc := kc) (rn := rn) (oc := oc) (hd := hd) (hs := hs) (se := se) (bd := bd) (dk := dk) (ct := ct) (bo := bo) (wi := wi) (sh := sh) (lf := lf) (lc := lc) (mo := mo) (ah := ah) (b := b) (j := j) hI (lw_j xs i 1)) K
set_option maxHeartbeats 4000000 in
set_option maxRecDepth 100000 in
theorem ls_share {p : Program} {e : Env} {s : State} {m : MethodId} {below : List Frame} {meth : Method} {c : Code} {bq L : Nat} {xs : Nat → Int32} {g : xo_E} {gm : mo_E} {o : Nat} {T : Nat → Int64} {ck : Nat → Int32} {cn : Int32} {f : Nat → Int64} {S : mS} {H : Heap} {locs : List Loc} {cells slots i : Nat} {ls : Array Slot} {Q : State → Prop} (l : Launch) (hst : l.stackTraces = false) (C0 : lw_At p s m meth c bq L xs) (hL : L ≤ 2048) (hi : i + 4 ≤ L) (hC : LC s g gm o) (hP1 : va_P g.1 cl_X (xq_W g o T ck cn f) H) (hP2 : va_P gm.1 cl_X (mo_W gm S) H) (hSS : va_S (nw_A s) s.heap H locs) (hl : lv_has ls 8 [(4, .int (nI i)), (3, .ref o), (2, .ref (gm.2.2 0)), (1, .ref (xo_a g)), (0, .ref bq)]) (hf : cells + 1 ≤ room_1.cells ∧ slots + 6 ≤ room_1.slots) (hInv : Inv T ck cn S) (K : ∀ (T1 : Nat → Int64) (dk1 : Nat → Int32) (dn1 : Int32) (f1 : Nat → Int64) (S1 : mS) (H1 : Heap) (locs1 : List Loc) (ls1 : Array Slot), va_P g.1 cl_X (xq_W g o T1 dk1 dn1 f1) H1 → va_P gm.1 cl_X (mo_W gm S1) H1 → va_S (nw_A s) s.heap H1 locs1 → Inv T1 dk1 dn1 S1 → lv_has ls1 8 [(4, .int (nI i)), (3, .ref o), (2, .ref (gm.2.2 0)), (1, .ref (xo_a g)), (0, .ref bq)] → W p l e room_1 s m #[Value.ref bq] below meth c H1 locs1 (cells + 1) (slots + 6) Q (F0 m 1204 ls1 [])) : W p l e room_1 s m #[Value.ref bq] below meth c H locs cells slots Q (F0 m 1100 ls []) := by
  obtain ⟨th, ks, kc, rn, oc, hd, hs, se, bd, b, dk, j, ct, bo, wi, sh, lf, lc, mo, ah, rfl, hI⟩ := hInv
  have hap := hC.1
  have ham := hC.2.1
  exact lw_share l C0 hL hi hC hP1 hP2 hSS hl hf _ 7 (by decide) (px_mu (cA_share l g T ck cn (lw_j xs i 1) (lw_j xs i 2) hst)) (fun E h => by
    (try simp only [px_up_ite, px_up_l, px_up_r] at h)
    repeat' split at h
    all_goals first | (cases h; done) | (cases h; first | rfl | exact Or.inl rfl | exact Or.inr rfl | exact Or.inr (Or.inl rfl) | exact Or.inr (Or.inr rfl))) (fun v T1 k1 n1 h => by
    (try simp only [px_up_ite, px_up_l, px_up_r] at h)
    repeat' split at h
    all_goals first | (cases h; done) | (cases h; exact ⟨_, rfl⟩)) 6 (by decide) _ (cM_share l gm th ks kc rn oc hd hs se bd b dk (nI j) ct bo wi sh lf lc mo ah (lw_j xs i 1) (lw_j xs i 2) ham (by first | exact hI.1 | decide) hI.2.2.2.2.1 hI.2.2.2.1) (tie_share (th := th) (ks := ks) (kc := kc) (rn := rn) (oc := oc) (hd := hd) (hs := hs) (se := se) (bd := bd) (dk := dk) (ct := ct) (bo := bo) (wi := wi) (sh := sh) (lf := lf) (lc := lc) (mo := mo) (ah := ah) (b := b) (j := j) hI (lw_j xs i 1) (lw_j xs i 2)) K
set_option maxHeartbeats 4000000 in
set_option maxRecDepth 100000 in
theorem ls_clear {p : Program} {e : Env} {s : State} {m : MethodId} {below : List Frame} {meth : Method} {c : Code} {bq L : Nat} {xs : Nat → Int32} {g : xo_E} {gm : mo_E} {o : Nat} {T : Nat → Int64} {ck : Nat → Int32} {cn : Int32} {f : Nat → Int64} {S : mS} {H : Heap} {locs : List Loc} {cells slots i : Nat} {ls : Array Slot} {Q : State → Prop} (l : Launch) (hst : l.stackTraces = false) (C0 : lw_At p s m meth c bq L xs) (hL : L ≤ 2048) (hi : i + 4 ≤ L) (hC : LC s g gm o) (hP1 : va_P g.1 cl_X (xq_W g o T ck cn f) H) (hP2 : va_P gm.1 cl_X (mo_W gm S) H) (hSS : va_S (nw_A s) s.heap H locs) (hl : lv_has ls 8 [(4, .int (nI i)), (3, .ref o), (2, .ref (gm.2.2 0)), (1, .ref (xo_a g)), (0, .ref bq)]) (hf : cells + 1 ≤ room_1.cells ∧ slots + 6 ≤ room_1.slots) (hInv : Inv T ck cn S) (K : ∀ (T1 : Nat → Int64) (dk1 : Nat → Int32) (dn1 : Int32) (f1 : Nat → Int64) (S1 : mS) (H1 : Heap) (locs1 : List Loc) (ls1 : Array Slot), va_P g.1 cl_X (xq_W g o T1 dk1 dn1 f1) H1 → va_P gm.1 cl_X (mo_W gm S1) H1 → va_S (nw_A s) s.heap H1 locs1 → Inv T1 dk1 dn1 S1 → lv_has ls1 8 [(4, .int (nI i)), (3, .ref o), (2, .ref (gm.2.2 0)), (1, .ref (xo_a g)), (0, .ref bq)] → W p l e room_1 s m #[Value.ref bq] below meth c H1 locs1 (cells + 1) (slots + 6) Q (F0 m 1204 ls1 [])) : W p l e room_1 s m #[Value.ref bq] below meth c H locs cells slots Q (F0 m 765 ls []) := by
  obtain ⟨th, ks, kc, rn, oc, hd, hs, se, bd, b, dk, j, ct, bo, wi, sh, lf, lc, mo, ah, rfl, hI⟩ := hInv
  have hap := hC.1
  have ham := hC.2.1
  exact lw_clear l C0 hL hi hC hP1 hP2 hSS hl hf _ 7 (by decide) (cA_clear l g T ck cn  hst hap) (fun E h => by
    (try simp only [px_up_ite, px_up_l, px_up_r] at h)
    repeat' split at h
    all_goals (cases h)) (fun v T1 k1 n1 h => by
    (try simp only [px_up_ite, px_up_l, px_up_r] at h)
    repeat' split at h
    all_goals first | (cases h; done) | (cases h; exact ⟨_, rfl⟩)) 0 (by decide) _ (cM_clear l gm th ks kc rn oc hd hs se bd (nI b) dk (nI j) ct bo wi sh lf lc mo ah  ham) (tie_clear (th := th) (ks := ks) (kc := kc) (rn := rn) (oc := oc) (hd := hd) (hs := hs) (se := se) (bd := bd) (dk := dk) (ct := ct) (bo := bo) (wi := wi) (sh := sh) (lf := lf) (lc := lc) (mo := mo) (ah := ah) (b := b) (j := j) hI ) K
set_option maxHeartbeats 4000000 in
set_option maxRecDepth 100000 in
theorem ls_draw {p : Program} {e : Env} {s : State} {m : MethodId} {below : List Frame} {meth : Method} {c : Code} {bq L : Nat} {xs : Nat → Int32} {g : xo_E} {gm : mo_E} {o : Nat} {T : Nat → Int64} {ck : Nat → Int32} {cn : Int32} {f : Nat → Int64} {S : mS} {H : Heap} {locs : List Loc} {cells slots i : Nat} {ls : Array Slot} {Q : State → Prop} (l : Launch) (hst : l.stackTraces = false) (C0 : lw_At p s m meth c bq L xs) (hL : L ≤ 2048) (hi : i + 4 ≤ L) (hC : LC s g gm o) (hP1 : va_P g.1 cl_X (xq_W g o T ck cn f) H) (hP2 : va_P gm.1 cl_X (mo_W gm S) H) (hSS : va_S (nw_A s) s.heap H locs) (hl : lv_has ls 8 [(4, .int (nI i)), (3, .ref o), (2, .ref (gm.2.2 0)), (1, .ref (xo_a g)), (0, .ref bq)]) (hf : cells + 1 ≤ room_1.cells ∧ slots + 6 ≤ room_1.slots) (hInv : Inv T ck cn S) (K : ∀ (T1 : Nat → Int64) (dk1 : Nat → Int32) (dn1 : Int32) (f1 : Nat → Int64) (S1 : mS) (H1 : Heap) (locs1 : List Loc) (ls1 : Array Slot), va_P g.1 cl_X (xq_W g o T1 dk1 dn1 f1) H1 → va_P gm.1 cl_X (mo_W gm S1) H1 → va_S (nw_A s) s.heap H1 locs1 → Inv T1 dk1 dn1 S1 → lv_has ls1 8 [(4, .int (nI i)), (3, .ref o), (2, .ref (gm.2.2 0)), (1, .ref (xo_a g)), (0, .ref bq)] → W p l e room_1 s m #[Value.ref bq] below meth c H1 locs1 (cells + 1) (slots + 6) Q (F0 m 1204 ls1 [])) : W p l e room_1 s m #[Value.ref bq] below meth c H locs cells slots Q (F0 m 1191 ls []) := by
  obtain ⟨th, ks, kc, rn, oc, hd, hs, se, bd, b, dk, j, ct, bo, wi, sh, lf, lc, mo, ah, rfl, hI⟩ := hInv
  have hap := hC.1
  have ham := hC.2.1
  exact lw_draw l C0 hL hi hC hP1 hP2 hSS hl hf _ 7 (by decide) (cA_draw l g T ck cn  hst hap (by rw [hI.2.2.1]; exact nI_pos (by have := hI.2.1; omega))) (fun E h => by
    (try simp only [px_up_ite, px_up_l, px_up_r] at h)
    repeat' split at h
    all_goals (cases h)) (fun v T1 k1 n1 h => by
    (try simp only [px_up_ite, px_up_l, px_up_r] at h)
    repeat' split at h
    all_goals first | (cases h; done) | (cases h; exact ⟨_, rfl⟩)) 0 (by decide) _ (cM_draw l gm th ks kc rn oc hd hs se bd (nI b) dk j ct bo wi sh lf lc mo ah  ham hI.2.1) (tie_draw (th := th) (ks := ks) (kc := kc) (rn := rn) (oc := oc) (hd := hd) (hs := hs) (se := se) (bd := bd) (dk := dk) (ct := ct) (bo := bo) (wi := wi) (sh := sh) (lf := lf) (lc := lc) (mo := mo) (ah := ah) (b := b) (j := j) hI ) K
set_option maxHeartbeats 4000000 in
set_option maxRecDepth 100000 in
theorem ls_shuffle {p : Program} {e : Env} {s : State} {m : MethodId} {below : List Frame} {meth : Method} {c : Code} {bq L : Nat} {xs : Nat → Int32} {g : xo_E} {gm : mo_E} {o : Nat} {T : Nat → Int64} {ck : Nat → Int32} {cn : Int32} {f : Nat → Int64} {S : mS} {H : Heap} {locs : List Loc} {cells slots i : Nat} {ls : Array Slot} {Q : State → Prop} (l : Launch) (hst : l.stackTraces = false) (C0 : lw_At p s m meth c bq L xs) (hL : L ≤ 2048) (hi : i + 4 ≤ L) (hC : LC s g gm o) (hP1 : va_P g.1 cl_X (xq_W g o T ck cn f) H) (hP2 : va_P gm.1 cl_X (mo_W gm S) H) (hSS : va_S (nw_A s) s.heap H locs) (hl : lv_has ls 8 [(4, .int (nI i)), (3, .ref o), (2, .ref (gm.2.2 0)), (1, .ref (xo_a g)), (0, .ref bq)]) (hf : cells + 1 ≤ room_1.cells ∧ slots + 6 ≤ room_1.slots) (hInv : Inv T ck cn S) (K : ∀ (T1 : Nat → Int64) (dk1 : Nat → Int32) (dn1 : Int32) (f1 : Nat → Int64) (S1 : mS) (H1 : Heap) (locs1 : List Loc) (ls1 : Array Slot), va_P g.1 cl_X (xq_W g o T1 dk1 dn1 f1) H1 → va_P gm.1 cl_X (mo_W gm S1) H1 → va_S (nw_A s) s.heap H1 locs1 → Inv T1 dk1 dn1 S1 → lv_has ls1 8 [(4, .int (nI i)), (3, .ref o), (2, .ref (gm.2.2 0)), (1, .ref (xo_a g)), (0, .ref bq)] → W p l e room_1 s m #[Value.ref bq] below meth c H1 locs1 (cells + 1) (slots + 6) Q (F0 m 1204 ls1 [])) : W p l e room_1 s m #[Value.ref bq] below meth c H locs cells slots Q (F0 m 1168 ls []) := by
  obtain ⟨th, ks, kc, rn, oc, hd, hs, se, bd, b, dk, j, ct, bo, wi, sh, lf, lc, mo, ah, rfl, hI⟩ := hInv
  have hap := hC.1
  have ham := hC.2.1
  exact lw_shuffle l C0 hL hi hC hP1 hP2 hSS hl hf _ _ _ 1 (by decide) (cA_shuffle l g T ck cn (lw_j xs i 1) hap) 1 (by decide) _ (cM_shuffle l gm th ks kc rn oc hd hs se bd (nI b) dk (nI j) ct bo wi sh lf lc mo ah (lw_j xs i 1) ham) (tie_shuffle (th := th) (ks := ks) (kc := kc) (rn := rn) (oc := oc) (hd := hd) (hs := hs) (se := se) (bd := bd) (dk := dk) (ct := ct) (bo := bo) (wi := wi) (sh := sh) (lf := lf) (lc := lc) (mo := mo) (ah := ah) (b := b) (j := j) hI (lw_j xs i 1)) K
set_option maxHeartbeats 4000000 in
set_option maxRecDepth 100000 in
theorem ls_wins {p : Program} {e : Env} {s : State} {m : MethodId} {below : List Frame} {meth : Method} {c : Code} {bq L : Nat} {xs : Nat → Int32} {g : xo_E} {gm : mo_E} {o : Nat} {T : Nat → Int64} {ck : Nat → Int32} {cn : Int32} {f : Nat → Int64} {S : mS} {H : Heap} {locs : List Loc} {cells slots i : Nat} {ls : Array Slot} {Q : State → Prop} (l : Launch) (hst : l.stackTraces = false) (C0 : lw_At p s m meth c bq L xs) (hL : L ≤ 2048) (hi : i + 4 ≤ L) (hC : LC s g gm o) (hP1 : va_P g.1 cl_X (xq_W g o T ck cn f) H) (hP2 : va_P gm.1 cl_X (mo_W gm S) H) (hSS : va_S (nw_A s) s.heap H locs) (hl : lv_has ls 8 [(4, .int (nI i)), (3, .ref o), (2, .ref (gm.2.2 0)), (1, .ref (xo_a g)), (0, .ref bq)]) (hf : cells + 1 ≤ room_1.cells ∧ slots + 6 ≤ room_1.slots) (hInv : Inv T ck cn S) (K : ∀ (T1 : Nat → Int64) (dk1 : Nat → Int32) (dn1 : Int32) (f1 : Nat → Int64) (S1 : mS) (H1 : Heap) (locs1 : List Loc) (ls1 : Array Slot), va_P g.1 cl_X (xq_W g o T1 dk1 dn1 f1) H1 → va_P gm.1 cl_X (mo_W gm S1) H1 → va_S (nw_A s) s.heap H1 locs1 → Inv T1 dk1 dn1 S1 → lv_has ls1 8 [(4, .int (nI i)), (3, .ref o), (2, .ref (gm.2.2 0)), (1, .ref (xo_a g)), (0, .ref bq)] → W p l e room_1 s m #[Value.ref bq] below meth c H1 locs1 (cells + 1) (slots + 6) Q (F0 m 1204 ls1 [])) : W p l e room_1 s m #[Value.ref bq] below meth c H locs cells slots Q (F0 m 977 ls []) := by
  obtain ⟨th, ks, kc, rn, oc, hd, hs, se, bd, b, dk, j, ct, bo, wi, sh, lf, lc, mo, ah, rfl, hI⟩ := hInv
  have hap := hC.1
  have ham := hC.2.1
  by_cases hb3 : 3 ≤ nI b
  · have hb3n : 3 ≤ b := (nI_leI (a := 3) (by decide) (by have := hI.1; omega)).mp hb3
    have hb6 : b = 3 ∨ b = 4 ∨ b = 5 := by have := hI.1; omega
    rcases hb6 with rfl | rfl | rfl
    · rcases hI.2.2.2.2.2.2.2.2 with h0 | ⟨h0, h1⟩
      · subst h0
        exact lw_wins l C0 hL hi hC hP1 hP2 hSS hl hf _ 9 (by decide) (px_mu (cA_wins_2 l g T ck cn (lw_j xs i 1) (lw_j xs i 2) hst (by rw [iv_bs hI]; decide))) (fun E h => by
    (try simp only [px_up_ite, px_up_l, px_up_r] at h)
    repeat' split at h
    all_goals first | (cases h; done) | (cases h; first | rfl | exact Or.inl rfl | exact Or.inr rfl | exact Or.inr (Or.inl rfl) | exact Or.inr (Or.inr rfl))) (fun v T1 k1 n1 h => by
    (try simp only [px_up_ite, px_up_l, px_up_r] at h)
    repeat' split at h
    all_goals first | (cases h; done) | (cases h; exact ⟨_, rfl⟩)) 8 (by decide) _ (cM_wins_3 l gm th ks kc rn oc hd hs se bd dk (nI j) bo wi sh lf lc mo ah (lw_j xs i 1) (lw_j xs i 2) ham hI.2.2.2.2.1 hI.2.2.2.1) (tie_wins_30 (th := th) (ks := ks) (kc := kc) (rn := rn) (oc := oc) (hd := hd) (hs := hs) (se := se) (bd := bd) (dk := dk) (ct := 0) (bo := bo) (wi := wi) (sh := sh) (lf := lf) (lc := lc) (mo := mo) (ah := ah) (b := 3) (j := j) hI (lw_j xs i 1) (lw_j xs i 2)) K
      · subst h0
        exact lw_wins l C0 hL hi hC hP1 hP2 hSS hl hf _ 9 (by decide) (px_mu (cA_wins_2 l g T ck cn (lw_j xs i 1) (lw_j xs i 2) hst (by rw [iv_bs hI]; decide))) (fun E h => by
    (try simp only [px_up_ite, px_up_l, px_up_r] at h)
    repeat' split at h
    all_goals first | (cases h; done) | (cases h; first | rfl | exact Or.inl rfl | exact Or.inr rfl | exact Or.inr (Or.inl rfl) | exact Or.inr (Or.inr rfl))) (fun v T1 k1 n1 h => by
    (try simp only [px_up_ite, px_up_l, px_up_r] at h)
    repeat' split at h
    all_goals first | (cases h; done) | (cases h; exact ⟨_, rfl⟩)) 8 (by decide) _ (cM_wins_c l gm th ks kc rn oc hd hs se bd 3 dk (nI j) bo wi sh lf lc mo ah (lw_j xs i 1) (lw_j xs i 2) ham) (tie_wins_31 (th := th) (ks := ks) (kc := kc) (rn := rn) (oc := oc) (hd := hd) (hs := hs) (se := se) (bd := bd) (dk := dk) (ct := 1) (bo := bo) (wi := wi) (sh := sh) (lf := lf) (lc := lc) (mo := mo) (ah := ah) (b := 3) (j := j) hI (lw_j xs i 1) (lw_j xs i 2)) K
    · rcases hI.2.2.2.2.2.2.2.2 with h0 | ⟨h0, h1⟩
      · subst h0
        exact lw_wins l C0 hL hi hC hP1 hP2 hSS hl hf _ 9 (by decide) (px_mu (cA_wins_1 l g T ck cn (lw_j xs i 1) (lw_j xs i 2) hst (by rw [iv_bs hI]; decide))) (fun E h => by
    (try simp only [px_up_ite, px_up_l, px_up_r] at h)
    repeat' split at h
    all_goals first | (cases h; done) | (cases h; first | rfl | exact Or.inl rfl | exact Or.inr rfl | exact Or.inr (Or.inl rfl) | exact Or.inr (Or.inr rfl))) (fun v T1 k1 n1 h => by
    (try simp only [px_up_ite, px_up_l, px_up_r] at h)
    repeat' split at h
    all_goals first | (cases h; done) | (cases h; exact ⟨_, rfl⟩)) 8 (by decide) _ (cM_wins_4 l gm th ks kc rn oc hd hs se bd dk (nI j) bo wi sh lf lc mo ah (lw_j xs i 1) (lw_j xs i 2) ham hI.2.2.2.2.1 hI.2.2.2.1) (tie_wins_40 (th := th) (ks := ks) (kc := kc) (rn := rn) (oc := oc) (hd := hd) (hs := hs) (se := se) (bd := bd) (dk := dk) (ct := 0) (bo := bo) (wi := wi) (sh := sh) (lf := lf) (lc := lc) (mo := mo) (ah := ah) (b := 4) (j := j) hI (lw_j xs i 1) (lw_j xs i 2)) K
      · subst h0
        exact lw_wins l C0 hL hi hC hP1 hP2 hSS hl hf _ 9 (by decide) (px_mu (cA_wins_1 l g T ck cn (lw_j xs i 1) (lw_j xs i 2) hst (by rw [iv_bs hI]; decide))) (fun E h => by
    (try simp only [px_up_ite, px_up_l, px_up_r] at h)
    repeat' split at h
    all_goals first | (cases h; done) | (cases h; first | rfl | exact Or.inl rfl | exact Or.inr rfl | exact Or.inr (Or.inl rfl) | exact Or.inr (Or.inr rfl))) (fun v T1 k1 n1 h => by
    (try simp only [px_up_ite, px_up_l, px_up_r] at h)
    repeat' split at h
    all_goals first | (cases h; done) | (cases h; exact ⟨_, rfl⟩)) 8 (by decide) _ (cM_wins_c l gm th ks kc rn oc hd hs se bd 4 dk (nI j) bo wi sh lf lc mo ah (lw_j xs i 1) (lw_j xs i 2) ham) (tie_wins_41 (th := th) (ks := ks) (kc := kc) (rn := rn) (oc := oc) (hd := hd) (hs := hs) (se := se) (bd := bd) (dk := dk) (ct := 1) (bo := bo) (wi := wi) (sh := sh) (lf := lf) (lc := lc) (mo := mo) (ah := ah) (b := 4) (j := j) hI (lw_j xs i 1) (lw_j xs i 2)) K
    · rcases hI.2.2.2.2.2.2.2.2 with h0 | ⟨h0, h1⟩
      · subst h0
        exact lw_wins l C0 hL hi hC hP1 hP2 hSS hl hf _ 9 (by decide) (px_mu (cA_wins_0 l g T ck cn (lw_j xs i 1) (lw_j xs i 2) hst (by rw [iv_bs hI]; decide))) (fun E h => by
    (try simp only [px_up_ite, px_up_l, px_up_r] at h)
    repeat' split at h
    all_goals first | (cases h; done) | (cases h; first | rfl | exact Or.inl rfl | exact Or.inr rfl | exact Or.inr (Or.inl rfl) | exact Or.inr (Or.inr rfl))) (fun v T1 k1 n1 h => by
    (try simp only [px_up_ite, px_up_l, px_up_r] at h)
    repeat' split at h
    all_goals first | (cases h; done) | (cases h; exact ⟨_, rfl⟩)) 8 (by decide) _ (cM_wins_5 l gm th ks kc rn oc hd hs se bd dk (nI j) bo wi sh lf lc mo ah (lw_j xs i 1) (lw_j xs i 2) ham hI.2.2.2.2.1 hI.2.2.2.1) (tie_wins_50 (th := th) (ks := ks) (kc := kc) (rn := rn) (oc := oc) (hd := hd) (hs := hs) (se := se) (bd := bd) (dk := dk) (ct := 0) (bo := bo) (wi := wi) (sh := sh) (lf := lf) (lc := lc) (mo := mo) (ah := ah) (b := 5) (j := j) hI (lw_j xs i 1) (lw_j xs i 2)) K
      · subst h0
        exact lw_wins l C0 hL hi hC hP1 hP2 hSS hl hf _ 9 (by decide) (px_mu (cA_wins_0 l g T ck cn (lw_j xs i 1) (lw_j xs i 2) hst (by rw [iv_bs hI]; decide))) (fun E h => by
    (try simp only [px_up_ite, px_up_l, px_up_r] at h)
    repeat' split at h
    all_goals first | (cases h; done) | (cases h; first | rfl | exact Or.inl rfl | exact Or.inr rfl | exact Or.inr (Or.inl rfl) | exact Or.inr (Or.inr rfl))) (fun v T1 k1 n1 h => by
    (try simp only [px_up_ite, px_up_l, px_up_r] at h)
    repeat' split at h
    all_goals first | (cases h; done) | (cases h; exact ⟨_, rfl⟩)) 8 (by decide) _ (cM_wins_c l gm th ks kc rn oc hd hs se bd 5 dk (nI j) bo wi sh lf lc mo ah (lw_j xs i 1) (lw_j xs i 2) ham) (tie_wins_51 (th := th) (ks := ks) (kc := kc) (rn := rn) (oc := oc) (hd := hd) (hs := hs) (se := se) (bd := bd) (dk := dk) (ct := 1) (bo := bo) (wi := wi) (sh := sh) (lf := lf) (lc := lc) (mo := mo) (ah := ah) (b := 5) (j := j) hI (lw_j xs i 1) (lw_j xs i 2)) K
  · have hg3 : g_bs T < 3 := by rw [iv_bs hI]; exact Int32.not_le.mp hb3
    exact lw_wins l C0 hL hi hC hP1 hP2 hSS hl hf _ 9 (by decide) (px_mu (cA_wins_n l g T ck cn (lw_j xs i 1) (lw_j xs i 2) hst hg3)) (fun E h => by
    (try simp only [px_up_ite, px_up_l, px_up_r] at h)
    repeat' split at h
    all_goals first | (cases h; done) | (cases h; first | rfl | exact Or.inl rfl | exact Or.inr rfl | exact Or.inr (Or.inl rfl) | exact Or.inr (Or.inr rfl))) (fun v T1 k1 n1 h => by
    (try simp only [px_up_ite, px_up_l, px_up_r] at h)
    repeat' split at h
    all_goals first | (cases h; done) | (cases h; exact ⟨_, rfl⟩)) 8 (by decide) _ (cM_wins_n l gm th ks kc rn oc hd hs se bd b dk (nI j) ct bo wi sh lf lc mo ah (lw_j xs i 1) (lw_j xs i 2) ham hb3) (tie_wins_n (th := th) (ks := ks) (kc := kc) (rn := rn) (oc := oc) (hd := hd) (hs := hs) (se := se) (bd := bd) (dk := dk) (ct := ct) (bo := bo) (wi := wi) (sh := sh) (lf := lf) (lc := lc) (mo := mo) (ah := ah) (b := b) (j := j) hI hb3 (lw_j xs i 1) (lw_j xs i 2)) K
