/-! Methods that leave the heap as it is, or throw: contracts and calls; instance methods; what a throw needs. -/
section TI
variable {p : Program} {l : Launch} {e : Env} {R : Room} {s : State} {m : MethodId} {args : Array Value} {below : List Frame} {meth : Method} {c : Code} {H : Heap} {locs : List Loc} {cells slots : Nat} {Q : State → Prop}
/-- the heap is the same: so are the counts -/
theorem st_tight {T T' : State} {locs' : List Loc} {cells' slots' : Nat} (X : Stand p l e R s m args below meth c T locs cells slots) (X' : Stand p l e R s m args below meth c T' locs' cells' slots') (h : T'.heap = T.heap) : Stand p l e R s m args below meth c T' locs cells slots := by
  obtain ⟨f1, f2, f3, f4, f5, f6⟩ := X.same
  obtain ⟨g1, g2, g3, g4, g5, g6⟩ := X'.same
  have e1 : (T'.setVm s.vm).heap = (T.setVm s.vm).heap := h
  exact { X' with same := ⟨g1, g2, by rw [e1]; exact f3, g4, by rw [e1]; exact f5, fun a c0 hc => by rw [e1]; exact f6 a c0 hc⟩ }
end TI
/-- thrown E, or returned v; either way nothing that was there has changed -/
def px_Q (res : String ⊕ Option Value) : Array Value → State → Outcome → State → Prop := fun _ st o t => ∃ v, res = .inr v ∧ o = .returned v ∧ t.heap = st.heap
def px_X (res : String ⊕ Option Value) : String → State → State → Prop := fun E st t => res = .inl E ∧ st.heap.size ≤ t.heap.size ∧ ∀ q : Nat, q < st.heap.size → t.heap[q]? = st.heap[q]?
def px_M (l : Launch) (y : MethodName) (b : ByteArray) (n : Nat) (ret : Option FieldType) (d : Nat) (av : List Value) (B : State → Prop) (res : String ⊕ Option Value) : Prop :=
  vx_Met l y (wd y b n ret) (rmD d 1 6) (va_Pc av B) (px_Q res) (px_X res) 1 6 (fun _ => False)
/-- the words of a call of an instance method of one's own class, or of the law -/
def cv_W (own : String) (index : Nat) (C : String) (y : MethodName) (b : ByteArray) (n : Nat) (ret : Option FieldType) (k : Nat) : Prop :=
  Cond.methodLink own index y ∈ gw ∧ Cond.instanceMethod y ∈ gw ∧ Cond.selects C y y ∈ gw ∧ Cond.initialized C ∈ gw ∧ Cond.code y b n ret ∈ gw ∧ (y.cls = C ∧ y.cls ≠ "java/lang/invoke/MethodHandle" ∧ y.cls ≠ "java/lang/invoke/VarHandle" ∧ (parseMethodDescriptor y.desc).map (fun d => d.parameters.length) = some k)
theorem cs_good {own : String} {index : Nat} {y y0 : MethodName} {b b0 : ByteArray} {n n0 k : Nat} {ret ret0 : Option FieldType} (hc : cs_W own index y b n ret k) : GoodIn (wd y0 b0 n0 ret0) (va_wsS own index y (wd y b n ret)) := by
  obtain ⟨w1, w2, w3, w4, -⟩ := hc
  intro w hw
  unfold va_wsS at hw
  rcases List.mem_append.mp hw with h | h
  · have hg : w ∈ gw := by
      rcases List.mem_cons.mp h with e | h
      · subst e; exact w1
      rcases List.mem_cons.mp h with e | h
      · subst e; exact w2
      rcases List.mem_cons.mp h with e | h
      · subst e; exact w3
      · cases h
    exact ⟨wd_in hg, gw_good hg⟩
  · exact wd_good w4 w h
theorem cv_good {own C : String} {index : Nat} {y y0 : MethodName} {b b0 : ByteArray} {n n0 k : Nat} {ret ret0 : Option FieldType} (hc : cv_W own index C y b n ret k) : GoodIn (wd y0 b0 n0 ret0) (wsV own index C y (wd y b n ret)) := by
  obtain ⟨w1, w2, w3, w4, w5, -⟩ := hc
  intro w hw
  unfold wsV at hw
  rcases List.mem_append.mp hw with h | h
  · have hg : w ∈ gw := by
      rcases List.mem_cons.mp h with e | h
      · subst e; exact w1
      rcases List.mem_cons.mp h with e | h
      · subst e; exact w2
      rcases List.mem_cons.mp h with e | h
      · subst e; exact w3
      rcases List.mem_cons.mp h with e | h
      · subst e; exact w4
      · cases h
    exact ⟨wd_in hg, gw_good hg⟩
  · exact wd_good w5 w h
section PX
variable {p : Program} {l : Launch} {e : Env} {R : Room} {s : State} {m : MethodId} {args : Array Value} {below : List Frame} {meth : Method} {c : Code} {H : Heap} {locs : List Loc} {cells slots : Nat} {Q : State → Prop}
variable {cc b : ByteArray} {pc nL n d index k : Nat} {ls : Array Slot} {rest st0 : List Value} {own C : String} {y y0 : MethodName} {b0 : ByteArray} {n0 : Nat} {ret ret0 : Option FieldType} {av : List Value} {B : State → Prop} {res res0 : String ⊕ Option Value} {r : Value} {o : Nat}
/-- an instance method's pure call -/
theorem pu_V (hM : pu_M l y b n ret d (.ref o :: av) B r) (he : st0 = av.reverse ++ .ref o :: rest) (hc : cv_W own index C y b n ret k) (S : CallFix p m c cc nL s args (wd y0 b0 n0 ret0) own) (hBl : bl_F B) (hB : B s) (hH : H = s.heap) (hrc : ∃ cell : Cell, H[o]? = some cell ∧ cell.vm.isStatics = false ∧ s.vm.findClass C = some cell.cls)
    (hR : (d + 1 ≤ R.frames ∧ 8 + (n + 11) + 70 * d ≤ R.locals)) (hl : ls.size = nL) (hk : av.length = k) (hst : (rest.map fun v => v.category).sum ≤ 8) (hf : cells ≤ R.cells ∧ slots ≤ R.slots) (hdg : decode cc pc = .ok (.invokevirtual index, 3))
    (kk : W p l e R s m args below meth c H locs cells slots Q (F0 m (pc + 3) ls (r :: rest))) : W p l e R s m args below meth c H locs cells slots Q (F0 m pc ls st0) := by
  subst he
  exact pu_call (va_runV (C := C) (b := o) (As := av) (rest := rest) S hM (cwV k S.2.2.2.2 (cv_good hc) rfl rfl rfl hc.2.2.2.2.2 hR) ⟨bl_blind hBl, hrc, fun U hU hW => ⟨rfl, hBl s U hW (by rw [hU, hH]) hB⟩⟩ rfl hk hl rfl (by show 2 * 0 + _ ≤ 8; omega) hdg hf) kk
theorem px_call {a : Array Value} (hr : vx_Run p l e R s m args below meth c H locs cells slots 1 6 (F0 m pc ls st0) rest (px_Q res a) (px_X res) (fun _ => False))
    (kr : ∀ v, res = .inr v → W p l e R s m args below meth c H locs cells slots Q (F0 m (pc + 3) ls (v.toList ++ rest)))
    (kt : ∀ (E : String) (q : Addr) (ce : Cell) (H1 : Heap), res = .inl E → H1[q]? = some ce → ce.vm = .none → s.vm.findClass E = some ce.cls → H.size ≤ H1.size → (∀ z : Nat, z < H.size → H1[z]? = H[z]?) → vx_W p l e R s m args below meth c H1 locs (cells + 1) (slots + 6) Q (F0 m pc ls rest) q) :
    W p l e R s m args below meth c H locs cells slots Q (F0 m pc ls st0) := by
  intro T hT X
  rcases hr T hT X with ⟨v, st₀, t, T', L, h0, X', hL, e1, e2, ⟨v', hres, hv, hh⟩, st⟩ | ⟨q, st₀, t, T', L, E, ce, h0, X', hL, e1, e2, ⟨hE, hz, hk⟩, hce, hcv, hcl, st⟩
  · cases hv
    obtain ⟨t2, a1, b1⟩ := kr v hres T' (by rw [e1, hh, h0]) (st_tight X X' (by rw [e1, hh, h0, hT]))
    exact ⟨t2, st t2 a1, b1⟩
  · rw [h0] at hz hk
    obtain ⟨t2, a1, b1⟩ := kt E q ce t.heap hE hce hcv hcl hz hk T' e1 (Stand.forget X' (fun z h => (hL z h).elim))
    exact ⟨t2, st.trans a1, b1⟩
/-- what is thrown goes on to the caller -/
theorem px_prop {q : Addr} {E : String} {ce : Cell} {H1 : Heap} (hout : ∀ x ∈ c.exceptionTable.toList, False) (hlk : meth.locks = false) (hE : res0 = .inl E) (h1 : H1[q]? = some ce) (h2 : ce.vm = .none) (h3 : s.vm.findClass E = some ce.cls) (h4 : s.heap.size ≤ H1.size) (h5 : ∀ z : Nat, z < s.heap.size → H1[z]? = s.heap[z]?) :
    vx_W p l e R s m args below meth c H1 [] (0 + 1) (0 + 6) (vx_MQ below (px_Q res0) (px_X res0) args s 1 6 (fun _ => False)) (F0 m pc ls rest) q :=
  vx_out (fun x hx => (hout x hx).elim) hlk h1 h2 h3 (fun t ht _ => ⟨hE, by rw [ht]; exact h4, fun z hz => by rw [ht]; exact h5 z hz⟩) (fun z hz => nomatch hz) (Nat.le_refl _) (Nat.le_refl _)
/-- a static call that may throw, in a method that may throw -/
theorem px_S (hM : px_M l y b n ret d av B res) (he : st0 = av.reverse ++ rest) (hc : cs_W own index y b n ret k) (S : CallFix p m c cc nL s args (wd y0 b0 n0 ret0) own) (hBl : bl_F B) (hB : B s)
    (hR : (d + 1 ≤ R.frames ∧ 8 + (n + 11) + 70 * d ≤ R.locals)) (hl : ls.size = nL) (hk : av.length = k) (hst : (rest.map fun v => v.category).sum ≤ 8) (hf : 0 + 1 ≤ R.cells ∧ 0 + 6 ≤ R.slots) (hdg : decode cc pc = .ok (.invokestatic index, 3)) (hout : ∀ x ∈ c.exceptionTable.toList, False) (hlk : meth.locks = false)
    (hE : ∀ E, res = .inl E → res0 = .inl E)
    (kr : ∀ v, res = .inr v → W p l e R s m args below meth c s.heap [] 0 0 (vx_MQ below (px_Q res0) (px_X res0) args s 1 6 (fun _ => False)) (F0 m (pc + 3) ls (v.toList ++ rest))) :
    W p l e R s m args below meth c s.heap [] 0 0 (vx_MQ below (px_Q res0) (px_X res0) args s 1 6 (fun _ => False)) (F0 m pc ls st0) := by
  subst he
  exact px_call (vx_runS (As := av) (rest := rest) S hM (va_cwS k S.2.2.2.2 (cs_good hc) rfl rfl rfl hc.2.2.2.2 hR) ⟨bl_blind hBl, fun U hU hW => ⟨rfl, hBl s U hW hU hB⟩⟩ rfl hk hl rfl (by show 2 * 0 + _ ≤ 8; omega) hdg hf) kr
    (fun E q ce H1 h0 h1 h2 h3 h4 h5 => px_prop hout hlk (hE E h0) h1 h2 h3 h4 h5)
theorem px_V (hM : px_M l y b n ret d (.ref o :: av) B res) (he : st0 = av.reverse ++ .ref o :: rest) (hc : cv_W own index C y b n ret k) (S : CallFix p m c cc nL s args (wd y0 b0 n0 ret0) own) (hBl : bl_F B) (hB : B s) (hrc : ∃ cell : Cell, s.heap[o]? = some cell ∧ cell.vm.isStatics = false ∧ s.vm.findClass C = some cell.cls)
    (hR : (d + 1 ≤ R.frames ∧ 8 + (n + 11) + 70 * d ≤ R.locals)) (hl : ls.size = nL) (hk : av.length = k) (hst : (rest.map fun v => v.category).sum ≤ 8) (hf : 0 + 1 ≤ R.cells ∧ 0 + 6 ≤ R.slots) (hdg : decode cc pc = .ok (.invokevirtual index, 3)) (hout : ∀ x ∈ c.exceptionTable.toList, False) (hlk : meth.locks = false)
    (hE : ∀ E, res = .inl E → res0 = .inl E)
    (kr : ∀ v, res = .inr v → W p l e R s m args below meth c s.heap [] 0 0 (vx_MQ below (px_Q res0) (px_X res0) args s 1 6 (fun _ => False)) (F0 m (pc + 3) ls (v.toList ++ rest))) :
    W p l e R s m args below meth c s.heap [] 0 0 (vx_MQ below (px_Q res0) (px_X res0) args s 1 6 (fun _ => False)) (F0 m pc ls st0) := by
  subst he
  exact px_call (vx_runV (C := C) (b := o) (As := av) (rest := rest) S hM (cwV k S.2.2.2.2 (cv_good hc) rfl rfl rfl hc.2.2.2.2.2 hR) ⟨bl_blind hBl, hrc, fun U hU hW => ⟨rfl, hBl s U hW hU hB⟩⟩ rfl hk hl rfl (by show 2 * 0 + _ ≤ 8; omega) hdg hf) kr
    (fun E q ce H1 h0 h1 h2 h3 h4 h5 => px_prop hout hlk (hE E h0) h1 h2 h3 h4 h5)
theorem px_iret {v : Int32} (hexec : p.tables.exec = Jvm.exec) (hb : c.code = cc) (hr : meth.sig.returnType = some .int) (hlocks : meth.locks = false) (hdg : decode cc pc = .ok (.ireturn, 1)) (hv : res0 = .inr (some (.int v))) :
    W p l e R s m args below meth c s.heap [] 0 0 (vx_MQ below (px_Q res0) (px_X res0) args s 1 6 (fun _ => False)) (F0 m pc ls [.int v]) :=
  W.widen (k := 1) (n := 6) (by omega) (by omega) (vx_ret (W.iret hexec hb hr (fun t ht _ => ⟨_, hv, rfl, ht⟩) (fun q h => nomatch h) hdg hlocks))
theorem px_lret {v : Int64} (hexec : p.tables.exec = Jvm.exec) (hb : c.code = cc) (hr : meth.sig.returnType = some .long) (hlocks : meth.locks = false) (hdg : decode cc pc = .ok (.lreturn, 1)) (hv : res0 = .inr (some (.long v))) :
    W p l e R s m args below meth c s.heap [] 0 0 (vx_MQ below (px_Q res0) (px_X res0) args s 1 6 (fun _ => False)) (F0 m pc ls [.long v]) :=
  W.widen (k := 1) (n := 6) (by omega) (by omega) (vx_ret (W.lret hexec hb hr (fun t ht _ => ⟨_, hv, rfl, ht⟩) (fun q h => nomatch h) hdg hlocks))
theorem px_vret (hexec : p.tables.exec = Jvm.exec) (hb : c.code = cc) (hr : meth.sig.returnType = none) (hlocks : meth.locks = false) (hdg : decode cc pc = .ok (.return_, 1)) (hv : res0 = .inr none) :
    W p l e R s m args below meth c s.heap [] 0 0 (vx_MQ below (px_Q res0) (px_X res0) args s 1 6 (fun _ => False)) (F0 m pc ls []) :=
  W.widen (k := 1) (n := 6) (by omega) (by omega) (vx_ret (W.vret hexec hb hr (fun t ht _ => ⟨_, hv, rfl, ht⟩) (fun q h => nomatch h) hdg hlocks))
end PX
/-! what a throw needs of the state -/
def ex_n : List String := ["java/lang/RuntimeException", "java/lang/Exception"]
def ex_IA : String := "java/lang/IllegalArgumentException"
def ex_IO : String := "java/lang/IndexOutOfBoundsException"
def ex_IS : String := "java/lang/IllegalStateException"
def ex_w : List Cond := [.declares ⟨"java/lang/RuntimeException", "<init>", "(Ljava/lang/String;)V"⟩, .declares ⟨"java/lang/Exception", "<init>", "(Ljava/lang/String;)V"⟩, .declares ⟨"java/lang/Throwable", "<init>", "(Ljava/lang/String;)V"⟩, .castable ex_IA ex_IA, .castable ex_IO ex_IO, .castable ex_IS ex_IS]
def ex_s : List (Nat × String) := [(123, "not five to seven cards"), (125, "no such value"), (52, "no such category"), (129, "no such seat"), (132, "no card"), (134, "the seat is empty"), (136, "the board has less than three cards"), (88, "all seats are empty"), (99, "neither wins nor shares"), (105, "the board is full"), (107, "the pot is below 0"), (109, "the board is not full")]
def ex_F (U : State) : Prop := (∀ w ∈ ex_w, va_Nw w U) ∧ vx_Zq Bundle.tN "UNASSIGNED_STACK" Bundle.steD ta_A U U.heap ∧ vx_Zq Bundle.tN "SUPPRESSED_SENTINEL" Bundle.listD ta_A U U.heap ∧ ∀ q ∈ ex_s, ∃ sa, vk_R "HandTables" q.1 q.2 sa U
theorem bl_ex : bl_F ex_F := by
  intro u U hW hh h
  obtain ⟨h1, h2, h3, h4⟩ := h
  refine ⟨fun w hw => ?_, by rw [hh]; exact vx_Zq.moved hW.alike h2, by rw [hh]; exact vx_Zq.moved hW.alike h3, fun q hq => ?_⟩
  · have h0 := h1 w hw
    simp only [ex_w, List.mem_cons, List.not_mem_nil, or_false] at hw
    rcases hw with rfl | rfl | rfl | rfl | rfl | rfl
    · exact va_Nw.warmD hW h0
    · exact va_Nw.warmD hW h0
    · exact va_Nw.warmD hW h0
    · exact va_Nw.warmC hW h0
    · exact va_Nw.warmC hW h0
    · exact va_Nw.warmC hW h0
  · obtain ⟨sa, hs⟩ := h4 q hq
    exact ⟨sa, vk_R.warm hW hs⟩
theorem at_IA : ∀ w ∈ (vx_atS "HandTables" 54 ex_IA ex_n).filter goodWord, w ∈ lw_tbl := by decide +kernel
theorem at_IO : ∀ w ∈ (vx_atS "HandTables" 131 ex_IO ex_n).filter goodWord, w ∈ lw_tbl := by decide +kernel
theorem at_IS : ∀ w ∈ (vx_atS "HandTables" 90 ex_IS ex_n).filter goodWord, w ∈ lw_tbl := by decide +kernel
theorem an_IA : ∀ w ∈ (vx_atS "HandTables" 54 ex_IA ex_n).filter (fun w => !goodWord w), w ∈ ex_w := by decide +kernel
theorem an_IO : ∀ w ∈ (vx_atS "HandTables" 131 ex_IO ex_n).filter (fun w => !goodWord w), w ∈ ex_w := by decide +kernel
theorem an_IS : ∀ w ∈ (vx_atS "HandTables" 90 ex_IS ex_n).filter (fun w => !goodWord w), w ∈ ex_w := by decide +kernel
theorem ao_w : ∀ w ∈ ex_w, w.onTables = true := by decide +kernel
theorem at_all {args : Array Value} {s : State} {L : List Cond} {y : MethodName} {b : ByteArray} {n : Nat} {r : Option FieldType} (hts : ∀ w ∈ wd y b n r, w.before args s = true) (hx : ex_F s) (h1 : ∀ w ∈ L.filter goodWord, w ∈ lw_tbl) (h2 : ∀ w ∈ L.filter (fun w => !goodWord w), w ∈ ex_w) : ∀ w ∈ L, w.before args s = true :=
  vx_hat (B := ex_w) (fun w hw => hts w (wd_in (List.mem_filter.mpr ⟨h1 w hw, (List.mem_filter.mp hw).2⟩))) h2 (fun w hw => va_Nw.use (ao_w w hw) (hx.1 w hw))
theorem ag_IA : ∀ w ∈ Cond.classLink "HandTables" 50 ex_IA :: Cond.initialized ex_IA :: vx_atS "HandTables" 54 ex_IA ex_n, vx_ot w = true := by decide +kernel
theorem ag_IO : ∀ w ∈ Cond.classLink "HandTables" 127 ex_IO :: Cond.initialized ex_IO :: vx_atS "HandTables" 131 ex_IO ex_n, vx_ot w = true := by decide +kernel
theorem ag_IS : ∀ w ∈ Cond.classLink "HandTables" 86 ex_IS :: Cond.initialized ex_IS :: vx_atS "HandTables" 90 ex_IS ex_n, vx_ot w = true := by decide +kernel
section PT
variable {p : Program} {l : Launch} {e : Env} {R : Room} {s : State} {m : MethodId} {args : Array Value} {below : List Frame} {meth : Method} {c : Code} {cc : ByteArray} {pc : Nat} {ls : Array Slot} {rest : List Value} {y : MethodName} {b : ByteArray} {n : Nat} {ret : Option FieldType} {res0 : String ⊕ Option Value}
/-- 'throw new E(text)' in a method that has changed nothing -/
theorem px_throw {cls text : String} {ik is ic : Nat} (hexec : p.tables.exec = Jvm.exec) (hb : c.code = cc) (hl : l.stackTraces = false) (hown : s.vm.findClass "HandTables" = some m.cls) (hts : ∀ w ∈ wd y b n ret, w.before args s = true) (hx : ex_F s)
    (hfit : Bundle.fit cls = true) (hk : Cond.classLink "HandTables" ik cls ∈ gw) (hi : Cond.initialized cls ∈ gw) (hs : (is, text) ∈ ex_s) (h1 : ∀ w ∈ (vx_atS "HandTables" ic cls ex_n).filter goodWord, w ∈ lw_tbl) (h2 : ∀ w ∈ (vx_atS "HandTables" ic cls ex_n).filter (fun w => !goodWord w), w ∈ ex_w)
    (hg : ∀ w ∈ Cond.classLink "HandTables" ik cls :: Cond.initialized cls :: vx_atS "HandTables" ic cls ex_n, vx_ot w = true) (hsize : ls.size = c.maxLocals)
    (d0 : decode cc pc = .ok (.new ik, 3)) (d3 : decode cc (pc + 3) = .ok (.dup, 1)) (d4 : decode cc (pc + 4) = .ok (.ldc is, 2)) (d6 : decode cc (pc + 6) = .ok (.invokespecial ic, 3)) (d9 : decode cc (pc + 9) = .ok (.athrow, 1))
    (hout : ∀ x ∈ c.exceptionTable.toList, False) (hRf : 5 < R.frames) (hRl : (rest.map fun v => v.category).sum + 82 ≤ R.locals) (hRc : 0 + 1 ≤ R.cells) (hRs : 0 + 6 ≤ R.slots) (hlk : meth.locks = false) (hE : res0 = .inl cls) :
    W p l e R s m args below meth c s.heap [] 0 0 (vx_MQ below (px_Q res0) (px_X res0) args s 1 6 (fun _ => False)) (F0 m pc ls rest) := by
  obtain ⟨sa, hsa⟩ := hx.2.2.2 _ hs
  exact vx_throwS (names := ex_n) hexec hb hl hown hfit (by decide +kernel) (hts _ (wd_in hk)) (hts _ (wd_in hi)) hsa (at_all hts hx h1 h2) hg hx.2.1 hx.2.2.1 va_S.rf hsize d0 d3 d4 d6 d9 (fun x hx => (hout x hx).elim) hRf hRl hRc hRs hlk
    (fun t _ h1 h2 => ⟨hE, h1, h2⟩) (fun z hz => nomatch hz) (Nat.le_refl _) (Nat.le_refl _)
end PT
