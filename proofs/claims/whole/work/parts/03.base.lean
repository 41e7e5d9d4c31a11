/-! One list of words for all methods: the good words of the tables; pure contracts (the heap stays); contracts that may end by a throw. -/
def gw : List Cond := lw_tbl.filter goodWord
theorem gw_mem {w : Cond} (k : Nat) (h : lw_tbl[k]? = some w) (hg : goodWord w = true) : w ∈ gw := List.mem_filter.mpr ⟨List.mem_of_getElem? h, hg⟩
abbrev wd (y : MethodName) (b : ByteArray) (n : Nat) (r : Option FieldType) : List Cond := Cond.code y b n r :: gw
theorem wd_in {y : MethodName} {b : ByteArray} {n : Nat} {r : Option FieldType} {w : Cond} (h : w ∈ gw) : w ∈ wd y b n r := List.mem_cons_of_mem _ h
theorem gw_good {w : Cond} (h : w ∈ gw) : (w.onTables && w.keeps) = true ∨ ∃ ty, w = .arrayClass ty := good_of_word (List.mem_filter.mp h).2
/-- the callee's words are among the caller's -/
theorem wd_good {y y2 : MethodName} {b b2 : ByteArray} {n n2 : Nat} {r r2 : Option FieldType} (h : Cond.code y2 b2 n2 r2 ∈ gw) : GoodIn (wd y b n r) (wd y2 b2 n2 r2) := by
  intro w hw
  rcases List.mem_cons.mp hw with e | e
  · subst e
    exact ⟨wd_in h, gw_good h⟩
  · exact ⟨wd_in e, gw_good e⟩
def rmD (d c n : Nat) : Room := { frames := d, cells := c, slots := n, locals := 70 * d }
/-- a pure answer: the heap stays -/
def pu_Q (r : Value) : Array Value → State → Outcome → State → Prop := fun _ st o t => o = .returned (some r) ∧ t.heap = st.heap
/-- a pure method's contract: arguments av, a fact B of the heap and the tables, the answer r; d: its frames -/
def pu_M (l : Launch) (y : MethodName) (b : ByteArray) (n : Nat) (ret : Option FieldType) (d : Nat) (av : List Value) (B : State → Prop) (r : Value) : Prop :=
  Met l y (wd y b n ret) (rmD d 0 0) (va_Pc av B) (pu_Q r) 0 0 (fun _ => False)
/-- a fact that the frames don't touch, and that warmer tables keep -/
def bl_F (B : State → Prop) : Prop := ∀ u U : State, u.WarmedH U.vm → U.heap = u.heap → B u → B U
theorem bl_T : bl_F (fun _ => True) := fun _ _ _ _ _ => trivial
theorem bl_blind {B : State → Prop} {av : List Value} (h : bl_F B) : FrameBlind (va_Pc av B) := fun a U g mk q => ⟨q.1, h U (U.calling g mk a) (State.WarmedH.refl U) rfl q.2⟩
section PU
variable {p : Program} {l : Launch} {e : Env} {R : Room} {s : State} {m : MethodId} {args : Array Value} {below : List Frame} {meth : Method} {c : Code} {H : Heap} {locs : List Loc} {cells slots : Nat} {Q : State → Prop}
variable {cc b : ByteArray} {pc nL n d index : Nat} {ls : Array Slot} {rest : List Value} {own : String} {y : MethodName} {ret : Option FieldType} {av : List Value} {B : State → Prop}
theorem pu_iret {r v : Int32} (hexec : p.tables.exec = Jvm.exec) (hb : c.code = cc) (hr : meth.sig.returnType = some .int) (hlocks : meth.locks = false) (hdg : decode cc pc = .ok (.ireturn, 1)) (hv : v = r) :
    W p l e R s m args below meth c s.heap [] 0 0 (MQ below (pu_Q (.int r)) args s 0 0 (fun _ => False)) (F0 m pc ls [.int v]) := by
  subst hv
  exact W.iret hexec hb hr (fun t ht _ => ⟨rfl, ht⟩) (fun q h => by cases h) hdg hlocks
theorem pu_lret {r v : Int64} (hexec : p.tables.exec = Jvm.exec) (hb : c.code = cc) (hr : meth.sig.returnType = some .long) (hlocks : meth.locks = false) (hdg : decode cc pc = .ok (.lreturn, 1)) (hv : v = r) :
    W p l e R s m args below meth c s.heap [] 0 0 (MQ below (pu_Q (.long r)) args s 0 0 (fun _ => False)) (F0 m pc ls [.long v]) := by
  subst hv
  exact W.lret hexec hb hr (fun t ht _ => ⟨rfl, ht⟩) (fun q h => by cases h) hdg hlocks
/-- behind a pure call nothing has moved -/
theorem pu_call {a : Array Value} {r : Value} {st0 : List Value} (hr : va_Run p l e R s m args below meth c H locs cells slots 0 0 (F0 m pc ls st0) rest (pu_Q r a) (fun _ => False))
    (kk : W p l e R s m args below meth c H locs cells slots Q (F0 m (pc + 3) ls (r :: rest))) : W p l e R s m args below meth c H locs cells slots Q (F0 m pc ls st0) := by
  intro T hT X
  obtain ⟨v, st₀, t, T', L, h0, X', hL, e1, e2, ⟨hv, hh⟩, st⟩ := hr T hT X
  cases hv
  obtain ⟨t2, a1, b1⟩ := kk T' (by rw [e1, hh, h0]) (Stand.forget X' (fun q h => (hL q h).elim))
  exact ⟨t2, st t2 a1, b1⟩
/-- the words of a call of a static method, from one class -/
def cs_W (own : String) (index : Nat) (y : MethodName) (b : ByteArray) (n : Nat) (ret : Option FieldType) (k : Nat) : Prop :=
  Cond.methodLink own index y ∈ gw ∧ Cond.static y ∈ gw ∧ Cond.initialized y.cls ∈ gw ∧ Cond.code y b n ret ∈ gw ∧ (y.cls ≠ "java/lang/invoke/MethodHandle" ∧ y.cls ≠ "java/lang/invoke/VarHandle" ∧ (parseMethodDescriptor y.desc).map (fun d => d.parameters.length) = some k)
theorem pu_S {y0 : MethodName} {b0 : ByteArray} {n0 : Nat} {ret0 : Option FieldType} {r : Value} {k : Nat} (hM : pu_M l y b n ret d av B r) {st0 : List Value} (he : st0 = av.reverse ++ rest) (hc : cs_W own index y b n ret k) (S : CallFix p m c cc nL s args (wd y0 b0 n0 ret0) own) (hBl : bl_F B) (hB : B s) (hH : H = s.heap)
    (hR : (d + 1 ≤ R.frames ∧ 8 + (n + 11) + 70 * d ≤ R.locals)) (hl : ls.size = nL) (hk : av.length = k) (hst : (rest.map fun v => v.category).sum ≤ 8) (hf : cells ≤ R.cells ∧ slots ≤ R.slots) (hdg : decode cc pc = .ok (.invokestatic index, 3))
    (kk : W p l e R s m args below meth c H locs cells slots Q (F0 m (pc + 3) ls (r :: rest))) : W p l e R s m args below meth c H locs cells slots Q (F0 m pc ls st0) := by
  obtain ⟨w1, w2, w3, w4, w5⟩ := hc
  subst he
  refine pu_call (va_runS (As := av) (rest := rest) S hM (va_cwS k S.2.2.2.2 (fun w hw => ?_) rfl rfl rfl w5 hR) ⟨bl_blind hBl, fun U hU hW => ⟨rfl, hBl s U hW (by rw [hU, hH]) hB⟩⟩ rfl hk hl rfl (by show 2 * 0 + _ ≤ 8; omega) hdg hf) kk
  unfold va_wsS at hw
  rcases List.mem_append.mp hw with h | h
  · have hg : w ∈ gw := by
      rcases List.mem_cons.mp h with e | h
      · subst e; exact w1
      rcases List.mem_cons.mp h with e | h
      · subst e; exact w2
      rcases List.mem_cons.mp h with e | h
      · subst e; exact w3
      · cases h
    exact ⟨wd_in hg, gw_good hg⟩
  · exact wd_good w4 w h
end PU
