/-! the law: its state; calls from it -/
theorem ta_keep1 {n : String} {xs : List Int32} {t : Nat} {s U : State} {H : Heap} (h : ta_1 n xs t s) (hq : ∀ a : Nat, a < s.heap.size → H[a]? = s.heap[a]?) (hU : U.heap = H) (hW : s.WarmedH U.vm) : ta_1 n xs t U := by
  obtain ⟨h1, h2⟩ := h
  have g1 := va_Z.moved hW.alike (h1.kept (fun a ha _ => hq a ha))
  have g2 := va_T.moved hW.alike (h2.kept (fun a ha _ => hq a ha))
  unfold ta_1
  rw [hU]
  exact ⟨g1, g2⟩
theorem ta_keep {s U : State} {H : Heap} (h : ta_F s) (hq : ∀ a : Nat, a < s.heap.size → H[a]? = s.heap[a]?) (hU : U.heap = H) (hW : s.WarmedH U.vm) : ta_F U := by
  obtain ⟨⟨t1, h1⟩, ⟨t2, h2⟩, ⟨t3, h3⟩, ⟨t4, h4⟩⟩ := h
  exact ⟨⟨t1, ta_keep1 h1 hq hU hW⟩, ⟨t2, ta_keep1 h2 hq hU hW⟩, ⟨t3, ta_keep1 h3 hq hU hW⟩, ⟨t4, ta_keep1 h4 hq hU hW⟩⟩
theorem ex_keep {s U : State} {H : Heap} (h : ex_F s) (hq : ∀ a : Nat, a < s.heap.size → H[a]? = s.heap[a]?) (hU : U.heap = H) (hW : s.WarmedH U.vm) : ex_F U := by
  obtain ⟨h1, h2, h3, h4⟩ := h
  refine ⟨fun w hw => ?_, by rw [hU]; exact vx_Zq.moved hW.alike (h2.kept (fun a ha _ => hq a ha)), by rw [hU]; exact vx_Zq.moved hW.alike (h3.kept (fun a ha _ => hq a ha)), fun q hq => ?_⟩
  · have h0 := h1 w hw
    simp only [ex_w, List.mem_cons, List.not_mem_nil, or_false] at hw
    rcases hw with rfl | rfl | rfl | rfl | rfl | rfl
    · exact va_Nw.warmD hW h0
    · exact va_Nw.warmD hW h0
    · exact va_Nw.warmD hW h0
    · exact va_Nw.warmC hW h0
    · exact va_Nw.warmC hW h0
    · exact va_Nw.warmC hW h0
  · obtain ⟨sa, hs⟩ := h4 q hq
    exact ⟨sa, vk_R.warm hW hs⟩
/-- the words of a call of a static method with an exception table -/
def cw_W (own : String) (index : Nat) (y : MethodName) (b : ByteArray) (n : Nat) (hh : List (Nat × Nat × Nat × Nat)) (k : Nat) : Prop :=
  Cond.methodLink own index y ∈ gw ∧ Cond.static y ∈ gw ∧ Cond.initialized y.cls ∈ gw ∧ Cond.codeWith y b n (some .int) hh ∈ gw ∧ (y.cls ≠ "java/lang/invoke/MethodHandle" ∧ y.cls ≠ "java/lang/invoke/VarHandle" ∧ (parseMethodDescriptor y.desc).map (fun d => d.parameters.length) = some k)
theorem cw_good {Ts : List Cond} (hT : ∀ w ∈ gw, w ∈ Ts) {own : String} {index : Nat} {y : MethodName} {b : ByteArray} {n k : Nat} {hh : List (Nat × Nat × Nat × Nat)} (hc : cw_W own index y b n hh k) : GoodIn Ts (va_wsS own index y (wdW y b n (some .int) hh)) := by
  obtain ⟨w1, w2, w3, w4, -⟩ := hc
  intro w hw
  have hg : w ∈ gw := by
    unfold va_wsS at hw
    rcases List.mem_append.mp hw with h | h
    · rcases List.mem_cons.mp h with e | h
      · subst e; exact w1
      rcases List.mem_cons.mp h with e | h
      · subst e; exact w2
      rcases List.mem_cons.mp h with e | h
      · subst e; exact w3
      · cases h
    · rcases List.mem_cons.mp h with e | h
      · subst e; exact w4
      · exact h
  exact ⟨hT _ hg, gw_good hg⟩
/-- what all cells of the law lie in: those that are new since its start -/
def nw_A (s : State) (q : Nat) : Prop := s.heap.size ≤ q
section LC
variable {p : Program} {l : Launch} {e : Env} {R : Room} {s : State} {m : MethodId} {args : Array Value} {below : List Frame} {meth : Method} {c : Code} {H : Heap} {locs : List Loc} {cells slots : Nat} {Q : State → Prop}
variable {cc b : ByteArray} {pc nL n d index k : Nat} {ls : Array Slot} {rest st0 : List Value} {own : String} {y : MethodName} {ret : Option FieldType} {av : List Value} {Ts : List Cond} {g : xo_E} {o : Nat} {T : Nat → Int64} {dk : Nat → Int32} {dn : Int32} {f : Nat → Int64} {R0 : wr_T} {hh : List (Nat × Nat × Nat × Nat)}
/-- the call of a wrapper -/
theorem wq_S (hM : wr_M l y b n hh d av g o T dk dn f R0) (he : st0 = av.reverse ++ rest) (hT : ∀ w ∈ gw, w ∈ Ts) (hc : cw_W own index y b n hh k) (S9 : CallFix p m c cc nL s args Ts own) (hB : ∀ U : State, U.heap = H → s.WarmedH U.vm → lq_F g o T dk dn f U)
    (hR : (d + 1 ≤ R.frames ∧ 8 + (n + 11) + 70 * d ≤ R.locals)) (hl : ls.size = nL) (hk : av.length = k) (hst : (rest.map fun v => v.category).sum ≤ 8) (hf : cells + 1 ≤ R.cells ∧ slots + 6 ≤ R.slots) (hdg : decode cc pc = .ok (.invokestatic index, 3)) (hS : va_S (nw_A s) s.heap H locs) (hA : ∀ q, wr_fr g o q → nw_A s q)
    (kk : ∀ (k1 : Int32) (f1 : Nat → Int64) (T1 : Nat → Int64) (dk1 : Nat → Int32) (dn1 : Int32) (H1 : Heap) (locs1 : List Loc), R0 k1 (f1 0) T1 dk1 dn1 → va_P g.1 cl_X (xq_W g o T1 dk1 dn1 f1) H1 → va_S (nw_A s) s.heap H1 locs1 → H.size ≤ H1.size → (∀ q : Nat, q < H.size → ¬ wr_fr g o q → H1[q]? = H[q]?) → W p l e R s m args below meth c H1 locs1 (cells + 1) (slots + 6) Q (F0 m (pc + 3) ls (.int k1 :: rest))) :
    W p l e R s m args below meth c H locs cells slots Q (F0 m pc ls st0) := by
  subst he
  have hr := vx_runSW (hh := hh) (As := av) (rest := rest) (e := e) (below := below) (meth := meth) (H := H) (locs := locs) (cells := cells) (slots := slots) (g := F0 m pc ls (av.reverse ++ rest)) S9 hM (vx_cwSW (R := R) k S9.2.2.2.2 (cw_good hT hc) rfl rfl rfl hc.2.2.2.2 hR) ⟨bl_blind bl_lq, fun U hU hW => ⟨rfl, hB U hU hW⟩⟩ rfl hk hl rfl (by show 2 * 0 + _ ≤ 8; omega) hdg hf
  intro X hX Y
  obtain ⟨v, st₀, t, T', L, h0, X', hL, e1, e2, ⟨k1, f1, T1, dk1, dn1, hres, hv, hz, hp, hk1⟩, st⟩ := hr X hX Y
  cases hv
  rw [h0] at hz hk1
  obtain ⟨t2, a1, b1⟩ := kk k1 f1 T1 dk1 dn1 T'.heap (locs ++ L) hres (by rw [e1]; exact hp) ⟨Nat.le_trans hS.1 (by rw [e1]; exact hz), fun q h1 h2 => by rw [e1, hk1 q (Nat.lt_of_lt_of_le h1 hS.1) (fun z => h2 (hA q z))]; exact hS.2.1 q h1 h2, fun q hq => by
      rcases List.mem_append.mp hq with h | h
      · exact hS.2.2 q h
      · exact hA _ (hL q h)⟩ (by rw [e1]; exact hz) (fun q h1 h2 => by rw [e1]; exact hk1 q h1 h2) T' rfl X'
  exact ⟨t2, st t2 a1, b1⟩
/-- the call of a method of the model from the law -/
theorem mm_VT {gm : mo_E} {S : mS} {R1 : mm_T} (hM : mm_M l y b n ret d (.ref (gm.2.2 0) :: av) gm S R1) (he : st0 = av.reverse ++ .ref (gm.2.2 0) :: rest) (hT : ∀ w ∈ gw, w ∈ Ts) (hc : cv_W own index "HandTablesModel" y b n ret k) (S9 : CallFix p m c cc nL s args Ts own) (hK : va_K gm.1 cl_X [(gm.2.1, .int)] s) (hP : va_P gm.1 cl_X (mo_W gm S) H)
    (hR : (d + 1 ≤ R.frames ∧ 8 + (n + 11) + 70 * d ≤ R.locals)) (hl : ls.size = nL) (hk : av.length = k) (hst : (rest.map fun v => v.category).sum ≤ 8) (hf : cells ≤ R.cells ∧ slots ≤ R.slots) (hdg : decode cc pc = .ok (.invokevirtual index, 3)) (hS : va_S (nw_A s) s.heap H locs) (hsub : ∀ q, mo_fr gm q → nw_A s q)
    (kk : ∀ (v : Option Value) (S1 : mS) (H1 : Heap) (locs1 : List Loc), R1 v S1 → va_P gm.1 cl_X (mo_W gm S1) H1 → va_S (nw_A s) s.heap H1 locs1 → H.size ≤ H1.size → (∀ q : Nat, q < H.size → ¬ mo_fr gm q → H1[q]? = H[q]?) → W p l e R s m args below meth c H1 locs1 cells slots Q (F0 m (pc + 3) ls (v.toList ++ rest))) : W p l e R s m args below meth c H locs cells slots Q (F0 m pc ls st0) := by
  subst he
  have hrc := va_recv (q0 := 0) (ci := 1) (q := ("HandTablesModel", T_M, 20)) hK hP rfl rfl
  have hr := va_runV (C := "HandTablesModel") (b := gm.2.2 0) (As := av) (rest := rest) (e := e) (below := below) (meth := meth) (H := H) (locs := locs) (cells := cells) (slots := slots) (g := F0 m pc ls (av.reverse ++ .ref (gm.2.2 0) :: rest)) S9 hM (cwV k S9.2.2.2.2 (cv_goodT hT hc) rfl rfl rfl hc.2.2.2.2.2 hR) ⟨bl_blind bl_mo, hrc, fun U hU hW => ⟨rfl, by rw [hU]; exact hP, va_K.moved hW.alike hK⟩⟩ rfl hk hl rfl (by show 2 * 0 + _ ≤ 8; omega) hdg hf
  intro X hX Y
  obtain ⟨v, st₀, t, T', L, h0, X', hL, e1, e2, ⟨v', S1, hres, hv, hz, hp, hk1⟩, st⟩ := hr X hX Y
  cases hv
  rw [h0] at hz hk1
  obtain ⟨t2, a1, b1⟩ := kk v S1 T'.heap (locs ++ L) hres (by rw [e1]; exact hp) ⟨Nat.le_trans hS.1 (by rw [e1]; exact hz), fun q h1 h2 => by rw [e1, hk1 q (Nat.lt_of_lt_of_le h1 hS.1) (fun z => h2 (hsub q z))]; exact hS.2.1 q h1 h2, fun q hq => by
      rcases List.mem_append.mp hq with h | h
      · exact hS.2.2 q h
      · exact hsub _ (hL q h)⟩ (by rw [e1]; exact hz) (fun q h1 h2 => by rw [e1]; exact hk1 q h1 h2) T' rfl X'
  exact ⟨t2, st t2 a1, b1⟩
/-- a call of the class from the law itself (clear, draw) -/
theorem wl_V {res : mu_R} (hM : mu_M l y b n ret d (.ref (xo_a g) :: av) g (xo_F g T dk dn) res) (he : st0 = av.reverse ++ .ref (xo_a g) :: rest) (hT : ∀ w ∈ gw, w ∈ Ts) (hc : cv_W own index "HandTables" y b n ret k) (S9 : CallFix p m c cc nL s args Ts own) (hB : ∀ U : State, U.heap = H → s.WarmedH U.vm → xo_F g T dk dn U) (hrc : ∃ cell : Cell, H[xo_a g]? = some cell ∧ cell.vm.isStatics = false ∧ s.vm.findClass "HandTables" = some cell.cls)
    (hR : (d + 1 ≤ R.frames ∧ 8 + (n + 11) + 70 * d ≤ R.locals)) (hl : ls.size = nL) (hk : av.length = k) (hst : (rest.map fun v => v.category).sum ≤ 8) (hf : cells + 1 ≤ R.cells ∧ slots + 6 ≤ R.slots) (hdg : decode cc pc = .ok (.invokevirtual index, 3)) (hS : va_S (nw_A s) s.heap H locs) (hA : ∀ q, mu_fr g q → nw_A s q) (hno : ∀ E, res ≠ .inl E)
    (kr : ∀ (v : Option Value) (T1 : Nat → Int64) (dk1 : Nat → Int32) (dn1 : Int32) (H1 : Heap) (locs1 : List Loc), res = .inr (v, T1, dk1, dn1) → va_P g.1 cl_X (xo_W g T1 dk1 dn1) H1 → va_S (nw_A s) s.heap H1 locs1 → H.size ≤ H1.size → (∀ q : Nat, q < H.size → ¬ mu_fr g q → H1[q]? = H[q]?) → W p l e R s m args below meth c H1 locs1 (cells + 1) (slots + 6) Q (F0 m (pc + 3) ls (v.toList ++ rest))) :
    W p l e R s m args below meth c H locs cells slots Q (F0 m pc ls st0) :=
  wr_V hM he hT hc S9 hB hrc hR hl hk hst hf hdg (fun v T1 dk1 dn1 H1 L h1 h2 h3 h4 h5 => kr v T1 dk1 dn1 H1 (locs ++ L) h1 h2 ⟨Nat.le_trans hS.1 h3, fun q q1 q2 => by rw [h4 q (Nat.lt_of_lt_of_le q1 hS.1) (fun z => q2 (hA q z))]; exact hS.2.1 q q1 q2, fun q hq => by
      rcases List.mem_append.mp hq with h | h
      · exact hS.2.2 q h
      · exact hA _ (h5 q h)⟩ h3 h4) (fun E q ce H1 L h1 => absurd h1 (hno E))
/-- the class's shuffle, from the law -/
theorem wl_W {T1 : Nat → Int64} {dk1 : Nat → Int32} {dn1 : Int32} (hM : mw_M l y b n ret d (.ref (xo_a g) :: av) g (xw_F g T dk dn) (.inr (none, T1, dk1, dn1))) (he : st0 = av.reverse ++ .ref (xo_a g) :: rest) (hT : ∀ w ∈ gw, w ∈ Ts) (hc : cv_W own index "HandTables" y b n ret k) (S9 : CallFix p m c cc nL s args Ts own) (hB : ∀ U : State, U.heap = H → s.WarmedH U.vm → xw_F g T dk dn U) (hrc : ∃ cell : Cell, H[xo_a g]? = some cell ∧ cell.vm.isStatics = false ∧ s.vm.findClass "HandTables" = some cell.cls)
    (hR : (d + 1 ≤ R.frames ∧ 8 + (n + 11) + 70 * d ≤ R.locals)) (hl : ls.size = nL) (hk : av.length = k) (hst : (rest.map fun v => v.category).sum ≤ 8) (hf : cells ≤ R.cells ∧ slots ≤ R.slots) (hdg : decode cc pc = .ok (.invokevirtual index, 3)) (hS : va_S (nw_A s) s.heap H locs) (hA : ∀ q, mu_fr g q → nw_A s q)
    (kk : ∀ (H1 : Heap) (locs1 : List Loc), va_P g.1 cl_X (xo_W g T1 dk1 dn1) H1 → va_S (nw_A s) s.heap H1 locs1 → H.size ≤ H1.size → (∀ q : Nat, q < H.size → ¬ mu_fr g q → H1[q]? = H[q]?) → W p l e R s m args below meth c H1 locs1 cells slots Q (F0 m (pc + 3) ls rest)) : W p l e R s m args below meth c H locs cells slots Q (F0 m pc ls st0) := by
  subst he
  have hr := va_runV (C := "HandTables") (b := xo_a g) (As := av) (rest := rest) (e := e) (below := below) (meth := meth) (H := H) (locs := locs) (cells := cells) (slots := slots) (g := F0 m pc ls (av.reverse ++ .ref (xo_a g) :: rest)) S9 hM (cwV k S9.2.2.2.2 (cv_goodT hT hc) rfl rfl rfl hc.2.2.2.2.2 hR) ⟨bl_blind bl_xw, hrc, fun U hU hW => ⟨rfl, hB U hU hW⟩⟩ rfl hk hl rfl (by show 2 * 0 + _ ≤ 8; omega) hdg hf
  intro X hX Y
  obtain ⟨v, st₀, t, T', L, h0, X', hL, e1, e2, ⟨v', T9, k1, n1, hres, hv, hz, hp, hk1⟩, st⟩ := hr X hX Y
  cases hv
  cases hres
  rw [h0] at hz hk1
  obtain ⟨t2, a1, b1⟩ := kk T'.heap (locs ++ L) (by rw [e1]; exact hp) ⟨Nat.le_trans hS.1 (by rw [e1]; exact hz), fun q h1 h2 => by rw [e1, hk1 q (Nat.lt_of_lt_of_le h1 hS.1) (fun z => h2 (hA q z))]; exact hS.2.1 q h1 h2, fun q hq => by
      rcases List.mem_append.mp hq with h | h
      · exact hS.2.2 q h
      · exact hA _ (hL q h)⟩ (by rw [e1]; exact hz) (fun q h1 h2 => by rw [e1]; exact hk1 q h1 h2) T' rfl X'
  exact ⟨t2, st t2 a1, b1⟩
end LC
/-! the law's state between two calls -/
/-- the keys of the model are those that were made, sorted -/
def iv_keys (ks : Nat → Int32) : Prop := ∃ k0 : Nat → Int32, (∀ i, i < 7462 → k0 i = k_made.getD i 0) ∧ ks = k_sort k0
/-- no card lies twice -/
def iv_ds (se bd : Nat → Int32) (b : Nat) : Prop := (∀ i j, i < 12 → j < 12 → i ≠ j → se i ≠ -1 → se i ≠ se j) ∧ (∀ i j, i < 12 → j < b → se i ≠ -1 → se i ≠ bd j) ∧ ∀ i j, i < b → j < b → i ≠ j → bd i ≠ bd j
def iv_tab (T : Nat → Int64) (se bd : Nat → Int32) (b : Nat) : Prop :=
  (∀ q, q < 6 → (se (2 * q) = -1 ↔ se (2 * q + 1) = -1)) ∧ (∀ q, q < 6 → T q = if se (2 * q) = -1 then 0 else jl 1 (se (2 * q)) ||| jl 1 (se (2 * q + 1))) ∧ T 6 = k_bset bd b ∧ iv_ds se bd b
def iv_cnt (se bd : Nat → Int32) (b : Nat) (wi sh : Nat → Int32) : Prop := 3 ≤ b → ∃ z w y : Nat → Int32, ∀ q, q < 6 → wi q = (k_all se bd b z w y).1 q ∧ sh q = (k_all se bd b z w y).2 q
/-- what ties the class's cells and the model's -/
def iv_ok (T : Nat → Int64) (dk : Nat → Int32) (dn : Int32) (ks se bd : Nat → Int32) (b : Nat) (dk2 : Nat → Int32) (j : Nat) (ct : Int32) (wi sh : Nat → Int32) : Prop :=
  b ≤ 5 ∧ j ≤ 52 ∧ dn = nI j ∧ k_hse se ∧ (∀ i, i < b → vp_in (bd i) 52) ∧ (∀ i, i < 52 → dk i = dk2 i) ∧ iv_keys ks ∧ iv_tab T se bd b ∧ (ct = 0 ∨ (ct = 1 ∧ iv_cnt se bd b wi sh))
def Inv (T : Nat → Int64) (dk : Nat → Int32) (dn : Int32) (S : mS) : Prop :=
  ∃ (th : Int32) (ks : Nat → Int32) (kc : Int32) (rn oc hd : Nat → Int32) (hs : Int32) (se bd : Nat → Int32) (b : Nat) (dk2 : Nat → Int32) (j : Nat) (ct bo : Int32) (wi sh lf : Nat → Int32) (lc mo ah : Int32), S = (th, ks, kc, rn, oc, hd, hs, se, bd, nI b, dk2, nI j, ct, bo, wi, sh, lf, lc, mo, ah) ∧ iv_ok T dk dn ks se bd b dk2 j ct wi sh
