section
-- ===== PART A: goes FIRST, ahead of the names: the tables' words, and 'selects' of the private methods out of them =====
/-- a private method of a class that the tables say can be made, by its rows of tables_1 -/
def lw_okq (q : MethodName × Nat) : Prop := (q.1.cls ≠ "java/lang/invoke/MethodHandle" ∧ q.1.cls ≠ "java/lang/invoke/VarHandle") ∧ Cond.instantiable q.1.cls q.2 ∈ tables_1 ∧ Cond.privateMethod q.1 ∈ tables_1 ∧ Cond.instanceMethod q.1 ∈ tables_1
theorem lw_p0 : lw_okq (⟨"HandTables", "sortDeck", "()V"⟩, 3) := ⟨⟨by decide +kernel, by decide +kernel⟩, List.mem_of_getElem? (i := 12) (by decide +kernel), List.mem_of_getElem? (i := 20) (by decide +kernel), List.mem_of_getElem? (i := 21) (by decide +kernel)⟩
theorem lw_p1 : lw_okq (⟨"HandTables", "boardSize", "()I"⟩, 3) := ⟨⟨by decide +kernel, by decide +kernel⟩, List.mem_of_getElem? (i := 12) (by decide +kernel), List.mem_of_getElem? (i := 40) (by decide +kernel), List.mem_of_getElem? (i := 41) (by decide +kernel)⟩
theorem lw_p2 : lw_okq (⟨"java/lang/Throwable", "fillInStackTrace", "(I)Ljava/lang/Throwable;"⟩, 6) := ⟨⟨by decide +kernel, by decide +kernel⟩, List.mem_of_getElem? (i := 110) (by decide +kernel), List.mem_of_getElem? (i := 108) (by decide +kernel), List.mem_of_getElem? (i := 109) (by decide +kernel)⟩
theorem lw_p3 : lw_okq (⟨"HandTables", "standing", "()J"⟩, 3) := ⟨⟨by decide +kernel, by decide +kernel⟩, List.mem_of_getElem? (i := 12) (by decide +kernel), List.mem_of_getElem? (i := 275) (by decide +kernel), List.mem_of_getElem? (i := 276) (by decide +kernel)⟩
theorem lw_p4 : lw_okq (⟨"HandTables", "missing", "()I"⟩, 3) := ⟨⟨by decide +kernel, by decide +kernel⟩, List.mem_of_getElem? (i := 12) (by decide +kernel), List.mem_of_getElem? (i := 293) (by decide +kernel), List.mem_of_getElem? (i := 294) (by decide +kernel)⟩
theorem lw_p5 : lw_okq (⟨"HandTables", "requireTaken", "(I)V"⟩, 3) := ⟨⟨by decide +kernel, by decide +kernel⟩, List.mem_of_getElem? (i := 12) (by decide +kernel), List.mem_of_getElem? (i := 312) (by decide +kernel), List.mem_of_getElem? (i := 313) (by decide +kernel)⟩
theorem lw_p6 : lw_okq (⟨"HandTables", "requireThreeOnBoard", "()V"⟩, 3) := ⟨⟨by decide +kernel, by decide +kernel⟩, List.mem_of_getElem? (i := 12) (by decide +kernel), List.mem_of_getElem? (i := 332) (by decide +kernel), List.mem_of_getElem? (i := 333) (by decide +kernel)⟩
theorem lw_p7 : lw_okq (⟨"HandTables", "free", "()J"⟩, 3) := ⟨⟨by decide +kernel, by decide +kernel⟩, List.mem_of_getElem? (i := 12) (by decide +kernel), List.mem_of_getElem? (i := 355) (by decide +kernel), List.mem_of_getElem? (i := 356) (by decide +kernel)⟩
theorem lw_p8 : lw_okq (⟨"HandTablesModel", "setRanks", "(IIIII)V"⟩, 20) := ⟨⟨by decide +kernel, by decide +kernel⟩, List.mem_of_getElem? (i := 397) (by decide +kernel), List.mem_of_getElem? (i := 403) (by decide +kernel), List.mem_of_getElem? (i := 404) (by decide +kernel)⟩
theorem lw_p9 : lw_okq (⟨"HandTablesModel", "keyOf", "(Z)I"⟩, 20) := ⟨⟨by decide +kernel, by decide +kernel⟩, List.mem_of_getElem? (i := 397) (by decide +kernel), List.mem_of_getElem? (i := 407) (by decide +kernel), List.mem_of_getElem? (i := 408) (by decide +kernel)⟩
theorem lw_p10 : lw_okq (⟨"HandTablesModel", "straight", "()I"⟩, 20) := ⟨⟨by decide +kernel, by decide +kernel⟩, List.mem_of_getElem? (i := 397) (by decide +kernel), List.mem_of_getElem? (i := 411) (by decide +kernel), List.mem_of_getElem? (i := 412) (by decide +kernel)⟩
theorem lw_p11 : lw_okq (⟨"HandTablesModel", "with", "(I)I"⟩, 20) := ⟨⟨by decide +kernel, by decide +kernel⟩, List.mem_of_getElem? (i := 397) (by decide +kernel), List.mem_of_getElem? (i := 415) (by decide +kernel), List.mem_of_getElem? (i := 416) (by decide +kernel)⟩
theorem lw_p12 : lw_okq (⟨"HandTablesModel", "addKey", "(I)V"⟩, 20) := ⟨⟨by decide +kernel, by decide +kernel⟩, List.mem_of_getElem? (i := 397) (by decide +kernel), List.mem_of_getElem? (i := 420) (by decide +kernel), List.mem_of_getElem? (i := 421) (by decide +kernel)⟩
theorem lw_p13 : lw_okq (⟨"HandTablesModel", "sort", "()V"⟩, 20) := ⟨⟨by decide +kernel, by decide +kernel⟩, List.mem_of_getElem? (i := 397) (by decide +kernel), List.mem_of_getElem? (i := 424) (by decide +kernel), List.mem_of_getElem? (i := 425) (by decide +kernel)⟩
theorem lw_p14 : lw_okq (⟨"HandTablesModel", "freshDeck", "()V"⟩, 20) := ⟨⟨by decide +kernel, by decide +kernel⟩, List.mem_of_getElem? (i := 397) (by decide +kernel), List.mem_of_getElem? (i := 428) (by decide +kernel), List.mem_of_getElem? (i := 429) (by decide +kernel)⟩
theorem lw_p15 : lw_okq (⟨"HandTablesModel", "takeCards", "(J)V"⟩, 20) := ⟨⟨by decide +kernel, by decide +kernel⟩, List.mem_of_getElem? (i := 397) (by decide +kernel), List.mem_of_getElem? (i := 504) (by decide +kernel), List.mem_of_getElem? (i := 505) (by decide +kernel)⟩
def lw_privs_1 : List (MethodName × Nat) := [(⟨"HandTables", "sortDeck", "()V"⟩, 3), (⟨"HandTables", "boardSize", "()I"⟩, 3), (⟨"java/lang/Throwable", "fillInStackTrace", "(I)Ljava/lang/Throwable;"⟩, 6), (⟨"HandTables", "standing", "()J"⟩, 3), (⟨"HandTables", "missing", "()I"⟩, 3), (⟨"HandTables", "requireTaken", "(I)V"⟩, 3), (⟨"HandTables", "requireThreeOnBoard", "()V"⟩, 3), (⟨"HandTables", "free", "()J"⟩, 3), (⟨"HandTablesModel", "setRanks", "(IIIII)V"⟩, 20), (⟨"HandTablesModel", "keyOf", "(Z)I"⟩, 20), (⟨"HandTablesModel", "straight", "()I"⟩, 20), (⟨"HandTablesModel", "with", "(I)I"⟩, 20), (⟨"HandTablesModel", "addKey", "(I)V"⟩, 20), (⟨"HandTablesModel", "sort", "()V"⟩, 20), (⟨"HandTablesModel", "freshDeck", "()V"⟩, 20), (⟨"HandTablesModel", "takeCards", "(J)V"⟩, 20)]
theorem lw_r1 : ∀ q ∈ lw_privs_1, lw_okq q := List.forall_mem_cons.mpr ⟨lw_p0, List.forall_mem_cons.mpr ⟨lw_p1, List.forall_mem_cons.mpr ⟨lw_p2, List.forall_mem_cons.mpr ⟨lw_p3, List.forall_mem_cons.mpr ⟨lw_p4, List.forall_mem_cons.mpr ⟨lw_p5, List.forall_mem_cons.mpr ⟨lw_p6, List.forall_mem_cons.mpr ⟨lw_p7, List.forall_mem_cons.mpr ⟨lw_p8, List.forall_mem_cons.mpr ⟨lw_p9, List.forall_mem_cons.mpr ⟨lw_p10, List.forall_mem_cons.mpr ⟨lw_p11, List.forall_mem_cons.mpr ⟨lw_p12, List.forall_mem_cons.mpr ⟨lw_p13, List.forall_mem_cons.mpr ⟨lw_p14, List.forall_mem_cons.mpr ⟨lw_p15, fun _ h => absurd h List.not_mem_nil⟩⟩⟩⟩⟩⟩⟩⟩⟩⟩⟩⟩⟩⟩⟩⟩
theorem lw_p16 : lw_okq (⟨"HandTablesModel", "bestKey", "()I"⟩, 20) := ⟨⟨by decide +kernel, by decide +kernel⟩, List.mem_of_getElem? (i := 397) (by decide +kernel), List.mem_of_getElem? (i := 508) (by decide +kernel), List.mem_of_getElem? (i := 509) (by decide +kernel)⟩
theorem lw_p17 : lw_okq (⟨"HandTablesModel", "keyOfSome", "(I)I"⟩, 20) := ⟨⟨by decide +kernel, by decide +kernel⟩, List.mem_of_getElem? (i := 397) (by decide +kernel), List.mem_of_getElem? (i := 512) (by decide +kernel), List.mem_of_getElem? (i := 513) (by decide +kernel)⟩
theorem lw_p18 : lw_okq (⟨"HandTablesModel", "below", "(I)I"⟩, 20) := ⟨⟨by decide +kernel, by decide +kernel⟩, List.mem_of_getElem? (i := 397) (by decide +kernel), List.mem_of_getElem? (i := 516) (by decide +kernel), List.mem_of_getElem? (i := 517) (by decide +kernel)⟩
theorem lw_p19 : lw_okq (⟨"HandTablesModel", "stands", "(II)Z"⟩, 20) := ⟨⟨by decide +kernel, by decide +kernel⟩, List.mem_of_getElem? (i := 397) (by decide +kernel), List.mem_of_getElem? (i := 553) (by decide +kernel), List.mem_of_getElem? (i := 554) (by decide +kernel)⟩
theorem lw_p20 : lw_okq (⟨"HandTablesModel", "keyOfSeat", "(III)I"⟩, 20) := ⟨⟨by decide +kernel, by decide +kernel⟩, List.mem_of_getElem? (i := 397) (by decide +kernel), List.mem_of_getElem? (i := 577) (by decide +kernel), List.mem_of_getElem? (i := 578) (by decide +kernel)⟩
theorem lw_p21 : lw_okq (⟨"HandTablesModel", "isEmpty", "()Z"⟩, 20) := ⟨⟨by decide +kernel, by decide +kernel⟩, List.mem_of_getElem? (i := 397) (by decide +kernel), List.mem_of_getElem? (i := 585) (by decide +kernel), List.mem_of_getElem? (i := 586) (by decide +kernel)⟩
theorem lw_p22 : lw_okq (⟨"HandTablesModel", "leaders", "(II)I"⟩, 20) := ⟨⟨by decide +kernel, by decide +kernel⟩, List.mem_of_getElem? (i := 397) (by decide +kernel), List.mem_of_getElem? (i := 589) (by decide +kernel), List.mem_of_getElem? (i := 590) (by decide +kernel)⟩
theorem lw_p23 : lw_okq (⟨"HandTablesModel", "findLeft", "()V"⟩, 20) := ⟨⟨by decide +kernel, by decide +kernel⟩, List.mem_of_getElem? (i := 397) (by decide +kernel), List.mem_of_getElem? (i := 597) (by decide +kernel), List.mem_of_getElem? (i := 598) (by decide +kernel)⟩
theorem lw_p24 : lw_okq (⟨"HandTablesModel", "countAll", "()V"⟩, 20) := ⟨⟨by decide +kernel, by decide +kernel⟩, List.mem_of_getElem? (i := 397) (by decide +kernel), List.mem_of_getElem? (i := 605) (by decide +kernel), List.mem_of_getElem? (i := 606) (by decide +kernel)⟩
theorem lw_p25 : lw_okq (⟨"HandTablesModel", "countBoard", "(II)V"⟩, 20) := ⟨⟨by decide +kernel, by decide +kernel⟩, List.mem_of_getElem? (i := 397) (by decide +kernel), List.mem_of_getElem? (i := 609) (by decide +kernel), List.mem_of_getElem? (i := 610) (by decide +kernel)⟩
def lw_privs_2 : List (MethodName × Nat) := [(⟨"HandTablesModel", "bestKey", "()I"⟩, 20), (⟨"HandTablesModel", "keyOfSome", "(I)I"⟩, 20), (⟨"HandTablesModel", "below", "(I)I"⟩, 20), (⟨"HandTablesModel", "stands", "(II)Z"⟩, 20), (⟨"HandTablesModel", "keyOfSeat", "(III)I"⟩, 20), (⟨"HandTablesModel", "isEmpty", "()Z"⟩, 20), (⟨"HandTablesModel", "leaders", "(II)I"⟩, 20), (⟨"HandTablesModel", "findLeft", "()V"⟩, 20), (⟨"HandTablesModel", "countAll", "()V"⟩, 20), (⟨"HandTablesModel", "countBoard", "(II)V"⟩, 20)]
theorem lw_r2 : ∀ q ∈ lw_privs_2, lw_okq q := List.forall_mem_cons.mpr ⟨lw_p16, List.forall_mem_cons.mpr ⟨lw_p17, List.forall_mem_cons.mpr ⟨lw_p18, List.forall_mem_cons.mpr ⟨lw_p19, List.forall_mem_cons.mpr ⟨lw_p20, List.forall_mem_cons.mpr ⟨lw_p21, List.forall_mem_cons.mpr ⟨lw_p22, List.forall_mem_cons.mpr ⟨lw_p23, List.forall_mem_cons.mpr ⟨lw_p24, List.forall_mem_cons.mpr ⟨lw_p25, fun _ h => absurd h List.not_mem_nil⟩⟩⟩⟩⟩⟩⟩⟩⟩⟩
def lw_privs : List (MethodName × Nat) := lw_privs_1 ++ (lw_privs_2)
def lw_tbl : List Cond := k2_sels lw_privs ++ tables_1
theorem lw_privs_ok : ∀ q ∈ lw_privs, lw_okq q := by
  show ∀ q ∈ lw_privs_1 ++ (lw_privs_2), lw_okq q
  exact List.forall_mem_append.mpr ⟨lw_r1, lw_r2⟩
end
section
/-! ===== BEGIN words of one list among another's, by their places ===== -/
theorem goodIn_r {big : List Cond} (ws : List Cond) (ps : List Nat) (hp : ws = ps.filterMap (fun i => big[i]?)) (h : ws.all goodWord = true) : GoodIn big ws := by
  intro w hw
  have h1 := List.all_eq_true.mp h w hw
  rw [hp] at hw
  obtain ⟨i, -, hi⟩ := List.mem_filterMap.mp hw
  have hm : w ∈ big := by first | exact List.mem_of_getElem? hi | exact List.getElem?_mem hi
  exact ⟨hm, good_of_word h1⟩
theorem goodIn_app {big a b : List Cond} (ha : GoodIn big a) (hb : GoodIn big b) : GoodIn big (a ++ b) := fun w h => (List.mem_append.mp h).elim (ha w) (hb w)
theorem goodIn_ca {big a b : List Cond} {c : Cond} (ha : GoodIn big (c :: a)) (hb : GoodIn big b) : GoodIn big (c :: (a ++ b)) := fun w h => (List.mem_cons.mp h).elim (fun e => ha w (List.mem_cons.mpr (Or.inl e))) (fun h => (List.mem_append.mp h).elim (fun h => ha w (List.mem_cons.mpr (Or.inr h))) (hb w))
theorem goodIn_sub {big ws : List Cond} (hm : ∀ w ∈ ws, w ∈ big) (h : ws.all goodWord = true) : GoodIn big ws := fun w hw => ⟨hm w hw, good_of_word (List.all_eq_true.mp h w hw)⟩
/-! ===== END ===== -/

/-! ===== BEGIN exceptions that leave a method, and their catching by the caller (launches without stack traces) ===== -/
section VXA
/-! The laws vx_back, vx_callV, vx_callS, vx_callSW, vx_throw0, vx_throwS follow proofs of the library, with one case more: JvmDerived/Free/Laws.lean (Back.of_free), Shelf42/LK1.lean (callV, callS), Shelf/KitTraced.lean (throwNew0V, throwNewS). -/
/-- where a method has thrown q: the class by its name, the cell, what was written, the world -/
def vx_T (XC : String → State → State → Prop) (st : State) (q : Addr) (t : State) (mc ms : Nat) (free : Addr → Prop) : Prop :=
  ∃ (E : String) (ce : Cell) (L : List Loc), XC E st t ∧ t.heap[q]? = some ce ∧ ce.vm = .none ∧ st.vm.findClass E = some ce.cls ∧ st.WarmedH t.vm ∧ st.sameButNew ({ t with vm := st.vm } : State) L mc ms ∧ ∀ z ∈ L, free z.base
def vx_Q (Qc : Array Value → State → Outcome → State → Prop) (XC : String → State → State → Prop) (mc ms : Nat) (free : Addr → Prop) : Array Value → State → Outcome → State → Prop := fun a st o t =>
  (Qc a st o t ∧ ∃ L, FrameEnd st o t L mc ms ∧ ∀ q ∈ L, free q.base) ∨ ∃ q, o = .threw q ∧ vx_T XC st q t mc ms free
/-- a callee that returns or throws -/
def vx_Met (l : Launch) (y : MethodName) (ws : List Cond) (rm : Room) (Pc : Array Value → State → Prop) (Qc : Array Value → State → Outcome → State → Prop) (XC : String → State → State → Prop) (mc ms : Nat) (free : Addr → Prop) : Prop :=
  MetFree l y (headSpec ws rm) Pc (fun _ _ _ _ _ => True) (vx_Q Qc XC mc ms free)
def vx_Post (XC : String → State → State → Prop) (mc ms : Nat) (free : Addr → Prop) : Pt → Array Value → Addr → Pt → Prop := fun A a q B =>
  ∃ (g : JFrame) (mk : MethodId) (t : State) (L : List Loc) (E : String) (ce : Cell), B.U.heap = t.heap ∧ B.U.vm = t.vm ∧ XC E (A.U.calling g mk a) t ∧ t.heap[q]? = some ce ∧ ce.vm = .none ∧ A.U.vm.findClass E = some ce.cls ∧ B.locs = A.locs ++ L ∧ (∀ z ∈ L, free z.base) ∧ B.cells = A.cells + mc ∧ B.slots = A.slots + ms
def vx_Back (l : Launch) (R : Room) (p : Program) (e : Env) (below : List Frame) (s : State) (sargs : Array Value) (y : MethodName) (len W9 : Nat)
    (Pre : Pt → Array Value → Prop) (Post : Pt → Array Value → Option Value → Pt → Prop) (PostX : Pt → Array Value → Addr → Pt → Prop) : Prop :=
  ∀ (m : MethodId) (meth : Method) (c : Code) (A : Pt) (g : JFrame) (ig : Instr) (mk : MethodId) (a : Array Value),
    Stand p l e R s m sargs below meth c A.U A.locs A.cells A.slots → g.method = m → g.locals.size = c.maxLocals → decode c.code g.pc = .ok (ig, len) →
    2 * g.monitorRoom + (g.stack.map fun v => v.category).sum ≤ W9 → A.U.methodNamed? y = some mk → Pre A a →
    (∃ (v : Option Value) (B : Pt), Stand p l e R s m sargs below meth c B.U B.locs B.cells B.slots ∧ Post A a v B ∧
      Steps p.tables e below (doInvoke e (A.U.setTop g) [] mk a).1 (B.U.setTop { g with pc := g.pc + len, stack := v.toList ++ g.stack })) ∨
    (∃ (q : Addr) (B : Pt), Stand p l e R s m sargs below meth c B.U B.locs B.cells B.slots ∧ PostX A a q B ∧
      Steps p.tables e below (doInvoke e (A.U.setTop g) [] mk a).1 ((B.U.setTop g).pushFrame (.throwing q)))
section Payer
variable {l : Launch} {R : Room} {p : Program} {e : Env} {below : List Frame} {s : State} {sargs : Array Value} {y : MethodName} {len W9 : Nat}
theorem vx_back {ws : List Cond} {rm : Room} {Pc : Array Value → State → Prop} {Qc : Array Value → State → Outcome → State → Prop} {XC : String → State → State → Prop} {mc ms : Nat} {free : Addr → Prop} {bytes : ByteArray} {maxL : Nat} {ret : Option FieldType}
    (hM : vx_Met l y ws rm Pc Qc XC mc ms free) (hblind : FrameBlind Pc) (hrc : rm.cells = mc) (hrs : rm.slots = ms)
    (hframes : rm.frames + 1 ≤ R.frames) (hlocals : W9 + (maxL + 11) + rm.locals ≤ R.locals)
    (hws : ∀ w ∈ ws, ∀ a' U, s.WarmedH U.vm → w.before a' U = true) (hcode : Cond.code y bytes maxL ret ∈ ws) (hinit : ∀ a' U, s.WarmedH U.vm → (Cond.initialized y.cls).before a' U = true) :
    vx_Back l R p e below s sargs y len W9 (PreOf R mc ms Pc) (PostOf Qc mc ms free) (vx_Post XC mc ms free) := by
  intro m meth c A g ig mk a X hg hsize hdg hW hn hp
  have h1 : (headSpec ws rm).pre.before a A.U = true := atoms_intro fun w hw => hws w hw _ _ X.warmed
  have h2 : (Cond.code y bytes maxL ret).before a A.U = true := hws _ hcode _ _ X.warmed
  have h3 : (Cond.initialized y.cls).before a A.U = true := hinit _ _ X.warmed
  have h4 : A.cells + (headSpec ws rm).room.cells ≤ R.cells := by rw [show (headSpec ws rm).room.cells = mc from hrc]; exact hp.1
  have h5 : A.slots + (headSpec ws rm).room.slots ≤ R.slots := by rw [show (headSpec ws rm).room.slots = ms from hrs]; exact hp.2.1
  have hPc : Pc a (A.U.calling g mk a) := hblind _ _ _ _ hp.2.2
  obtain ⟨U, Ls, c0, s0⟩ := A
  dsimp only [Pt.U, Pt.locs, Pt.cells, Pt.slots] at h1 h2 h3 h4 h5 X hn hPc ⊢
  obtain ⟨methY, cY, hmY, hcY, -, hlY, -, -, -, -⟩ := Cond.code_spec hn h2
  obtain ⟨kY, hkY, -⟩ := className_of_methodNamed hn
  have hinitY : kY.init = .initialized := Cond.initialized_spec (findClass_of_methodNamed hn) hkY h3
  have h : At U g.method c below := by rw [hg]; exact X.here
  have hlocals9 : W9 + (maxL + 11) + (headSpec ws rm).room.locals ≤ R.locals := hlocals
  have happ : (headSpec ws rm).appliesLoose y e.platform (U.calling g mk a) = true :=
    Spec.appliesLoose_calling (g := g) h hdg hn hkY hinitY
      (X.room_calling (g := g) (R' := (headSpec ws rm).room) hsize hmY hcY hframes (by rw [hlY]; omega) h4 h5) h1
  obtain ⟨mid, hmid⟩ := h.above
  have hfr : (U.setTop g).frames = (.java g :: mid) ++ below := by rw [State.frames_setTop' g h.top, hmid]; rfl
  obtain ⟨o, s₂, hsteps, -, hend, hq⟩ := Steps.callFree hM p X.admits X.cas X.clock (acts := []) hfr happ hPc trivial
  have hq' : vx_Q Qc XC mc ms free a (U.calling g mk a) o s₂ := hq
  rw [State.frames_setTop' g h.top] at hend
  obtain ⟨g₀, hg0⟩ := Option.isSome_iff_exists.mp h.top
  obtain ⟨r, hr⟩ := State.topJava?_eq_some.mp hg0
  have hr' : (({ U with heap := s₂.heap, slotsUsed := s₂.slotsUsed } : State).setVm s₂.vm).frames = .java g₀ :: r := hr
  rcases hq' with ⟨hqc, L, hfe, hL⟩ | ⟨q, rfl, E, ce, L, hx, hce, hcv, hcl, hW₂, hsm, hL⟩
  · obtain ⟨⟨v, rfl⟩, hW₂, e2, q2, q3, q4, q5, q6⟩ := id hfe
    have e3 : s₂ = ({ (U.calling g mk a).setFrames s₂.frames with heap := s₂.heap, slotsUsed := s₂.slotsUsed } : State).setVm s₂.vm := by
      have : s₂ = ({ s₂ with vm := (U.calling g mk a).vm } : State).setVm s₂.vm := rfl
      rw [e2] at this
      exact this
    obtain ⟨c₂, i₂, len₂, hc₂, hd₂, hf₂⟩ := hend
    have hW' : U.WarmedH s₂.vm := hW₂
    have hcc : c₂ = c := by
      have h1 : s₂.code? g.method = U.code? g.method := by
        rw [State.code?_eq, State.code?_eq, hW'.alike.method?]
      exact Option.some.inj (hc₂.symm.trans (h1.trans h.code))
    subst hcc
    have hlen : len₂ = len := by rw [hdg] at hd₂; cases hd₂; rfl
    subst hlen
    have hs₂ : s₂ = (({ U with heap := s₂.heap, slotsUsed := s₂.slotsUsed } : State).setVm s₂.vm).setTop { g with pc := g.pc + len₂, stack := v.toList ++ g.stack } := by
      refine e3.trans ?_
      rw [hf₂, State.calling_eq h.top, State.setFrames_setFrames, State.setTop_of_frames _ hr', hr]
      rfl
    have hsame : U.sameButNew ({ U with heap := s₂.heap, slotsUsed := s₂.slotsUsed } : State) L mc ms := by
      refine ⟨?_, q2, q3, q4, q5, q6⟩
      obtain ⟨t, ht, -⟩ := State.frames_cons hr
      show ({ U with heap := s₂.heap, slotsUsed := s₂.slotsUsed } : State) = { U.setFrames U.frames with heap := s₂.heap, slotsUsed := s₂.slotsUsed }
      rw [State.setFrames_self ht]
    subst hg
    refine Or.inl ⟨v, ⟨(({ U with heap := s₂.heap, slotsUsed := s₂.slotsUsed } : State).setVm s₂.vm), Ls ++ L, c0 + mc, s0 + ms⟩,
      ⟨X.admits, X.cas, X.clock, X.frames, X.room, X.hears, X.method, X.code, (X.here.setHeapUsed s₂.heap s₂.slotsUsed).setVm hW'.alike, X.tail, State.WarmedH.trans X.warmed hW', X.limits, X.bytes, X.same.trans (hsame.setVm s.vm)⟩,
      ⟨g, mk, s₂, L, rfl, rfl, hqc, rfl, hL, rfl, rfl⟩, ?_⟩
    show Steps p.tables e below _ ((({ U with heap := s₂.heap, slotsUsed := s₂.slotsUsed } : State).setVm s₂.vm).setTop { g with pc := g.pc + len₂, stack := v.toList ++ g.stack })
    rw [← hs₂]
    exact hsteps
  · obtain ⟨e2, q2, q3, q4, q5, q6⟩ := id hsm
    have e3 : s₂ = ({ (U.calling g mk a).setFrames s₂.frames with heap := s₂.heap, slotsUsed := s₂.slotsUsed } : State).setVm s₂.vm := by
      have : s₂ = ({ s₂ with vm := (U.calling g mk a).vm } : State).setVm s₂.vm := rfl
      rw [e2] at this
      exact this
    have hf₂ : s₂.frames = .throwing q :: .java g :: U.frames.tail := hend
    have hW' : U.WarmedH s₂.vm := hW₂
    have hs₂ : s₂ = ((({ U with heap := s₂.heap, slotsUsed := s₂.slotsUsed } : State).setVm s₂.vm).setTop g).pushFrame (.throwing q) := by
      refine e3.trans ?_
      rw [hf₂, State.calling_eq h.top, State.setFrames_setFrames, State.pushFrame, State.frames_setTop _ hr', State.setTop_of_frames _ hr', State.setFrames_setFrames, hr]
      rfl
    have hsame : U.sameButNew ({ U with heap := s₂.heap, slotsUsed := s₂.slotsUsed } : State) L mc ms := by
      refine ⟨?_, q2, q3, q4, q5, q6⟩
      obtain ⟨t, ht, -⟩ := State.frames_cons hr
      show ({ U with heap := s₂.heap, slotsUsed := s₂.slotsUsed } : State) = { U.setFrames U.frames with heap := s₂.heap, slotsUsed := s₂.slotsUsed }
      rw [State.setFrames_self ht]
    subst hg
    refine Or.inr ⟨q, ⟨(({ U with heap := s₂.heap, slotsUsed := s₂.slotsUsed } : State).setVm s₂.vm), Ls ++ L, c0 + mc, s0 + ms⟩,
      ⟨X.admits, X.cas, X.clock, X.frames, X.room, X.hears, X.method, X.code, (X.here.setHeapUsed s₂.heap s₂.slotsUsed).setVm hW'.alike, X.tail, State.WarmedH.trans X.warmed hW', X.limits, X.bytes, X.same.trans (hsame.setVm s.vm)⟩,
      ⟨g, mk, s₂, L, E, ce, rfl, rfl, hx, hce, hcv, hcl, rfl, hL, rfl, rfl⟩, ?_⟩
    show Steps p.tables e below _ (((({ U with heap := s₂.heap, slotsUsed := s₂.slotsUsed } : State).setVm s₂.vm).setTop g).pushFrame (.throwing q))
    rw [← hs₂]
    exact hsteps
end Payer
section Calls
variable {p : Program} {l : Launch} {e : Env} {R : Room} {s : State} {m : MethodId} {args : Array Value} {below : List Frame} {meth : Method} {c : Code} {T : State} {locs : List Loc} {cells slots : Nat}
theorem vx_callV (X : Stand p l e R s m args below meth c T locs cells slots) (hexec : p.tables.exec = Jvm.exec) {own C : String} {index : Nat} {y : MethodName} {bytes : ByteArray} {maxL : Nat} {ret : Option FieldType}
    (hown : s.vm.findClass own = some m.cls) (hlink : (Cond.methodLink own index y).before args s = true) (hinst : (Cond.instanceMethod y).before args s = true) (hsel : (Cond.selects C y y).before args s = true)
    (hcode : (Cond.code y bytes maxL ret).before args s = true) (hy : y.cls ≠ "java/lang/invoke/MethodHandle" ∧ y.cls ≠ "java/lang/invoke/VarHandle")
    {W9 : Nat} {Pre : Pt → Array Value → Prop} {Post : Pt → Array Value → Option Value → Pt → Prop} {PostX : Pt → Array Value → Addr → Pt → Prop} (hK : vx_Back l R p e below s args y 3 W9 Pre Post PostX)
    {b : Addr} {cellB : Cell} (hcell : T.heap[b]? = some cellB) (hobj : cellB.vm.isStatics = false) (hcls : s.vm.findClass C = some cellB.cls)
    {g : JFrame} (hg : g.method = m) (hsize : g.locals.size = c.maxLocals) {argsL rest : List Value} (hlen : ∀ sig, parseMethodDescriptor y.desc = some sig → argsL.length = sig.parameters.length)
    (hstack : g.stack = argsL.reverse ++ .ref b :: rest) (hW : 2 * g.monitorRoom + (rest.map fun v => v.category).sum ≤ W9) (hdg : decode c.code g.pc = .ok (.invokevirtual index, 3))
    (hpre : ∀ vm₁, s.WarmedH vm₁ → Pre ⟨T.setVm vm₁, locs, cells, slots⟩ (Value.ref b :: argsL).toArray) :
    (∃ (v : Option Value) (vm₁ : Vm) (B : Pt), s.WarmedH vm₁ ∧ Stand p l e R s m args below meth c B.U B.locs B.cells B.slots ∧ Post ⟨T.setVm vm₁, locs, cells, slots⟩ (Value.ref b :: argsL).toArray v B ∧
      ∀ target, Steps p.tables e below (B.U.setTop { g with pc := g.pc + 3, stack := v.toList ++ rest }) target → Steps p.tables e below (T.setTop g) target) ∨
    (∃ (q : Addr) (vm₁ : Vm) (B : Pt), s.WarmedH vm₁ ∧ Stand p l e R s m args below meth c B.U B.locs B.cells B.slots ∧ PostX ⟨T.setVm vm₁, locs, cells, slots⟩ (Value.ref b :: argsL).toArray q B ∧
      Steps p.tables e below (T.setTop g) ((B.U.setTop { g with stack := rest }).pushFrame (.throwing q))) := by
  obtain ⟨mk, methM, hnamed, hmethM, hstM, habM⟩ := Cond.instanceMethod_spec hinst
  obtain ⟨methM', cM, hmethM', -, -, -, -, -, -, hsigM⟩ := Cond.code_spec hnamed hcode
  cases hmethM.symm.trans hmethM'
  obtain ⟨c2, r2, m2, q1, q2, q3, q4, kP, hkP, hkPi⟩ := Cond.selects_spec hsel
  cases hcls.symm.trans q1
  cases (State.methodFound?_of_named hnamed hy).symm.trans q2
  cases hnamed.symm.trans q3
  have hselP : selectMethod e.platform s.vm cellB.cls mk = .method mk := by rw [Launch.admits_selectMethod X.admits]; exact q4
  obtain ⟨vm₁, X₁, hstep₁⟩ := X.invokevirtual hexec hown hlink hnamed hmethM hstM hkP hkPi hy (a := b) (cell := cellB) hcell
    (fun z h => by rw [h] at hobj; cases hobj) hselP hmethM habM hkP hkPi (g := g) hg (argsL := argsL) (rest := rest) (hlen _ hsigM) hstack hdg
  rcases hK m meth c ⟨T.setVm vm₁, locs, cells, slots⟩ { g with stack := rest } (.invokevirtual index) mk (Value.ref b :: argsL).toArray X₁ hg hsize hdg hW (X₁.named hnamed) (hpre vm₁ X₁.warmed) with ⟨v, B, X', hpost, hsteps⟩ | ⟨q, B, X', hpost, hsteps⟩
  · exact Or.inl ⟨v, vm₁, B, X₁.warmed, X', hpost, fun target h => hstep₁ _ fun acts => by rw [doInvoke_state]; exact hsteps.trans h⟩
  · exact Or.inr ⟨q, vm₁, B, X₁.warmed, X', hpost, hstep₁ _ fun acts => by rw [doInvoke_state]; exact hsteps⟩
theorem vx_callS (X : Stand p l e R s m args below meth c T locs cells slots) (hexec : p.tables.exec = Jvm.exec) {own : String} {index : Nat} {y : MethodName} {bytes : ByteArray} {maxL : Nat} {ret : Option FieldType}
    (hown : s.vm.findClass own = some m.cls) (hlink : (Cond.methodLink own index y).before args s = true) (hstat : (Cond.static y).before args s = true) (hinit : (Cond.initialized y.cls).before args s = true)
    (hcode : (Cond.code y bytes maxL ret).before args s = true) (hy : y.cls ≠ "java/lang/invoke/MethodHandle" ∧ y.cls ≠ "java/lang/invoke/VarHandle")
    {W9 : Nat} {Pre : Pt → Array Value → Prop} {Post : Pt → Array Value → Option Value → Pt → Prop} {PostX : Pt → Array Value → Addr → Pt → Prop} (hK : vx_Back l R p e below s args y 3 W9 Pre Post PostX)
    {g : JFrame} (hg : g.method = m) (hsize : g.locals.size = c.maxLocals) {argsL rest : List Value} (hlen : ∀ sig, parseMethodDescriptor y.desc = some sig → argsL.length = sig.parameters.length)
    (hstack : g.stack = argsL.reverse ++ rest) (hW : 2 * g.monitorRoom + (rest.map fun v => v.category).sum ≤ W9) (hdg : decode c.code g.pc = .ok (.invokestatic index, 3))
    (hpre : ∀ vm₁, s.WarmedH vm₁ → Pre ⟨T.setVm vm₁, locs, cells, slots⟩ argsL.toArray) :
    (∃ (v : Option Value) (vm₁ : Vm) (B : Pt), s.WarmedH vm₁ ∧ Stand p l e R s m args below meth c B.U B.locs B.cells B.slots ∧ Post ⟨T.setVm vm₁, locs, cells, slots⟩ argsL.toArray v B ∧
      ∀ target, Steps p.tables e below (B.U.setTop { g with pc := g.pc + 3, stack := v.toList ++ rest }) target → Steps p.tables e below (T.setTop g) target) ∨
    (∃ (q : Addr) (vm₁ : Vm) (B : Pt), s.WarmedH vm₁ ∧ Stand p l e R s m args below meth c B.U B.locs B.cells B.slots ∧ PostX ⟨T.setVm vm₁, locs, cells, slots⟩ argsL.toArray q B ∧
      Steps p.tables e below (T.setTop g) ((B.U.setTop { g with stack := rest }).pushFrame (.throwing q))) := by
  obtain ⟨mk, hnamed⟩ := Cond.code_named hcode
  obtain ⟨methM, cM, hmethM, -, -, -, -, -, -, hsigM⟩ := Cond.code_spec hnamed hcode
  have hstatic : methM.isStatic = true := Cond.static_spec hnamed hmethM hstat
  obtain ⟨kP, hkP, -⟩ := className_of_methodNamed hnamed
  have hinitP : kP.init = .initialized := Cond.initialized_spec (findClass_of_methodNamed hnamed) hkP hinit
  obtain ⟨vm₁, X₁, hstep₁⟩ := X.invokestatic hexec hown hlink hnamed hmethM hstatic hkP hinitP hy (g := g) hg (argsL := argsL) (rest := rest) (hlen _ hsigM) hstack hdg
  rcases hK m meth c ⟨T.setVm vm₁, locs, cells, slots⟩ { g with stack := rest } (.invokestatic index) mk argsL.toArray X₁ hg hsize hdg hW (X₁.named hnamed) (hpre vm₁ X₁.warmed) with ⟨v, B, X', hpost, hsteps⟩ | ⟨q, B, X', hpost, hsteps⟩
  · exact Or.inl ⟨v, vm₁, B, X₁.warmed, X', hpost, fun target h => hstep₁ _ fun acts => by rw [doInvoke_state]; exact hsteps.trans h⟩
  · exact Or.inr ⟨q, vm₁, B, X₁.warmed, X', hpost, hstep₁ _ fun acts => by rw [doInvoke_state]; exact hsteps⟩
end Calls
theorem vx_cls {s : State} {T : State} {vm₁ : Vm} {E : String} {k : ClassId} (hW : s.WarmedH vm₁) (h : (T.setVm vm₁).vm.findClass E = some k) : s.vm.findClass E = some k := by
  have h1 : vm₁.findClass E = some k := h
  rw [hW.alike.findClass] at h1
  exact h1
/-- the method's frame g, with q thrown over it -/
def vx_W (p : Program) (l : Launch) (e : Env) (R : Room) (s : State) (m : MethodId) (args : Array Value) (below : List Frame) (meth : Method) (c : Code) (H : Heap) (locs : List Loc) (cells slots : Nat) (Q : State → Prop) (g : JFrame) (q : Addr) : Prop :=
  ∀ T : State, T.heap = H → Stand p l e R s m args below meth c T locs cells slots → ∃ t, Steps p.tables e below ((T.setTop g).pushFrame (.throwing q)) t ∧ Q t
def vx_Run (p : Program) (l : Launch) (e : Env) (R : Room) (s : State) (m : MethodId) (args : Array Value) (below : List Frame) (meth : Method) (c : Code) (H : Heap) (locs : List Loc) (cells slots mc ms : Nat) (g : JFrame) (rest : List Value) (Qa : State → Outcome → State → Prop) (XC : String → State → State → Prop) (free : Addr → Prop) : Prop :=
  ∀ T : State, T.heap = H → Stand p l e R s m args below meth c T locs cells slots →
    (∃ (v : Option Value) (st₀ t T' : State) (L : List Loc), st₀.heap = H ∧ Stand p l e R s m args below meth c T' (locs ++ L) (cells + mc) (slots + ms) ∧ (∀ q ∈ L, free q.base) ∧ T'.heap = t.heap ∧ T'.vm = t.vm ∧ Qa st₀ (.returned v) t ∧
      Goes p e below T g T' { g with pc := g.pc + 3, stack := v.toList ++ rest }) ∨
    (∃ (q : Addr) (st₀ t T' : State) (L : List Loc) (E : String) (ce : Cell), st₀.heap = H ∧ Stand p l e R s m args below meth c T' (locs ++ L) (cells + mc) (slots + ms) ∧ (∀ z ∈ L, free z.base) ∧ T'.heap = t.heap ∧ T'.vm = t.vm ∧ XC E st₀ t ∧ t.heap[q]? = some ce ∧ ce.vm = .none ∧ s.vm.findClass E = some ce.cls ∧
      Steps p.tables e below (T.setTop g) ((T'.setTop { g with stack := rest }).pushFrame (.throwing q)))
def vx_X {S : Type} (px : S → Prop) (B : String → S → State → Prop) (A : Nat → Prop) : String → State → State → Prop := fun E st t => ∃ u : S, px u ∧ B E u t ∧ va_F A st t
section Runs
variable {p : Program} {l : Launch} {e : Env} {R : Room} {s : State} {m : MethodId} {args : Array Value} {below : List Frame} {meth : Method} {c : Code} {H : Heap} {locs : List Loc} {cells slots : Nat}
variable {y : MethodName} {bytes cc : ByteArray} {maxL nL mc ms n index : Nat} {ret : Option FieldType} {ws : List Cond} {rm : Room} {Pc : Array Value → State → Prop} {Qc : Array Value → State → Outcome → State → Prop} {XC : String → State → State → Prop} {free : Addr → Prop} {Ts : List Cond} {own C : String} {b : Addr} {As rest : List Value} {g : JFrame}
theorem vx_callBack (cb : CallB R s args own index y bytes maxL ret ws rm mc ms n) (hM : vx_Met l y ws rm Pc Qc XC mc ms free) (hbl : FrameBlind Pc) : vx_Back l R p e below s args y 3 8 (PreOf R mc ms Pc) (PostOf Qc mc ms free) (vx_Post XC mc ms free) := by
  obtain ⟨hrc, hrs, hfr, hlo, hws, hcw, -, hini, -⟩ := cb
  exact vx_back (bytes := bytes) (maxL := maxL) (ret := ret) hM hbl hrc hrs hfr hlo hws hcw (fun a' U hW => word_at hW (Or.inl (by first | rfl | simp [Cond.onTables, Cond.keeps, Cond.steady])) hini)
theorem vx_runV (S : CallFix p m c cc nL s args Ts own) (hM : vx_Met l y ws rm Pc Qc XC mc ms free) (cw : CallW R s args own C index y bytes maxL ret ws rm mc ms n) (hp : PreV s H C b Pc As)
    (hg : g.method = m) (hn : As.length = n) (hsize : g.locals.size = nL) (hstack : g.stack = As.reverse ++ .ref b :: rest) (hW : 2 * g.monitorRoom + (rest.map fun v => v.category).sum ≤ 8) (hdg : decode cc g.pc = .ok (.invokevirtual index, 3)) (hf : cells + mc ≤ R.cells ∧ slots + ms ≤ R.slots) :
    vx_Run p l e R s m args below meth c H locs cells slots mc ms g rest (Qc (Value.ref b :: As).toArray) XC free := by
  have hK : vx_Back l R p e below s args y 3 8 (PreOf R mc ms Pc) (PostOf Qc mc ms free) (vx_Post XC mc ms free) := vx_callBack cw.1 hM hp.1
  obtain ⟨⟨-, -, -, -, -, -, hcode, -, hy, hlen, hl⟩, hin, hse⟩ := cw
  obtain ⟨hx, hb, hml, ho, -⟩ := S
  obtain ⟨-, ⟨cellB, hcB, hoB, hclB⟩, hPc⟩ := hp
  intro T hT X
  rcases vx_callV X hx (C := C) (bytes := bytes) (maxL := maxL) (ret := ret) ho hl hin hse hcode hy hK (by rw [hT]; exact hcB) hoB hclB hg (hsize.trans hml.symm) (argsL := As) (rest := rest) (fun sig h => hn.trans (hlen sig h)) hstack hW (by rw [hb]; exact hdg)
    (fun vm₁ hW₁ => ⟨hf.1, hf.2, hPc (T.setVm vm₁) hT hW₁⟩) with ⟨v, vm₁, ⟨U', l2, c2, s2⟩, hW₁, X', ⟨g', mk, t, L, e1, e2, hq, h1, hL, h2, h3⟩, st⟩ | ⟨q, vm₁, ⟨U', l2, c2, s2⟩, hW₁, X', ⟨g', mk, t, L, E, ce, e1, e2, hq, hce, hcv, hcl, h1, hL, h2, h3⟩, st⟩
  · dsimp only [Pt.U, Pt.locs, Pt.cells, Pt.slots] at X' e1 e2 h1 h2 h3 st
    subst h1; subst h2; subst h3
    exact Or.inl ⟨v, (T.setVm vm₁).calling g' mk (Value.ref b :: As).toArray, t, U', L, hT, X', hL, e1, e2, hq, st⟩
  · dsimp only [Pt.U, Pt.locs, Pt.cells, Pt.slots] at X' e1 e2 h1 h2 h3 st hcl
    subst h1; subst h2; subst h3
    exact Or.inr ⟨q, (T.setVm vm₁).calling g' mk (Value.ref b :: As).toArray, t, U', L, E, ce, hT, X', hL, e1, e2, hq, hce, hcv, vx_cls hW₁ hcl, st⟩
theorem vx_runS (S : CallFix p m c cc nL s args Ts own) (hM : vx_Met l y ws rm Pc Qc XC mc ms free) (cw : CallB R s args own index y bytes maxL ret ws rm mc ms n ∧ (Cond.static y).before args s = true) (hp : PreS s H Pc As)
    (hg : g.method = m) (hn : As.length = n) (hsize : g.locals.size = nL) (hstack : g.stack = As.reverse ++ rest) (hW : 2 * g.monitorRoom + (rest.map fun v => v.category).sum ≤ 8) (hdg : decode cc g.pc = .ok (.invokestatic index, 3)) (hf : cells + mc ≤ R.cells ∧ slots + ms ≤ R.slots) :
    vx_Run p l e R s m args below meth c H locs cells slots mc ms g rest (Qc As.toArray) XC free := by
  have hK : vx_Back l R p e below s args y 3 8 (PreOf R mc ms Pc) (PostOf Qc mc ms free) (vx_Post XC mc ms free) := vx_callBack cw.1 hM hp.1
  obtain ⟨⟨-, -, -, -, -, -, hcode, hini, hy, hlen, hl⟩, hstt⟩ := cw
  obtain ⟨hx, hb, hml, ho, -⟩ := S
  intro T hT X
  rcases vx_callS X hx (bytes := bytes) (maxL := maxL) (ret := ret) ho hl hstt hini hcode hy hK hg (hsize.trans hml.symm) (argsL := As) (rest := rest) (fun sig h => hn.trans (hlen sig h)) hstack hW (by rw [hb]; exact hdg)
    (fun vm₁ hW₁ => ⟨hf.1, hf.2, hp.2 (T.setVm vm₁) hT hW₁⟩) with ⟨v, vm₁, ⟨U', l2, c2, s2⟩, hW₁, X', ⟨g', mk, t, L, e1, e2, hq, h1, hL, h2, h3⟩, st⟩ | ⟨q, vm₁, ⟨U', l2, c2, s2⟩, hW₁, X', ⟨g', mk, t, L, E, ce, e1, e2, hq, hce, hcv, hcl, h1, hL, h2, h3⟩, st⟩
  · dsimp only [Pt.U, Pt.locs, Pt.cells, Pt.slots] at X' e1 e2 h1 h2 h3 st
    subst h1; subst h2; subst h3
    exact Or.inl ⟨v, (T.setVm vm₁).calling g' mk As.toArray, t, U', L, hT, X', hL, e1, e2, hq, st⟩
  · dsimp only [Pt.U, Pt.locs, Pt.cells, Pt.slots] at X' e1 e2 h1 h2 h3 st hcl
    subst h1; subst h2; subst h3
    exact Or.inr ⟨q, (T.setVm vm₁).calling g' mk As.toArray, t, U', L, E, ce, hT, X', hL, e1, e2, hq, hce, hcv, vx_cls hW₁ hcl, st⟩
end Runs
section Rows
variable {p : Program} {l : Launch} {e : Env} {R : Room} {s : State} {m : MethodId} {args : Array Value} {below : List Frame} {meth : Method} {c : Code} {H : Heap} {locs : List Loc} {cells slots : Nat} {Q : State → Prop}
variable {mc ms : Nat} {free : Addr → Prop} {A0 A1 : Nat → Prop} {H0 : Heap} {a : Array Value} {pc : Nat} {ls : Array Slot} {st0 rest : List Value}
theorem vx_keep {st₀ t T' : State} {L : List Loc} (h0 : st₀.heap = H) (e1 : T'.heap = t.heap) (hS : va_S A0 H0 H locs) (hA : ∀ q, q < H.size → A1 q → A0 q) (hf : ∀ q, free q → A0 q) (hL : ∀ q ∈ L, free q.base) (hF : va_F A1 st₀ t) :
    H.size ≤ T'.heap.size ∧ (∀ q : Nat, q < H.size → ¬ A1 q → T'.heap[q]? = H[q]?) ∧ va_S A0 H0 T'.heap (locs ++ L) := by
  obtain ⟨hz, hk⟩ := hF
  rw [h0] at hz hk
  exact ⟨by rw [e1]; exact hz, fun q h1 h2 => by rw [e1]; exact hk q h1 h2,
    ⟨Nat.le_trans hS.1 (by rw [e1]; exact hz), fun q h1 h2 => by rw [e1, hk q (Nat.lt_of_lt_of_le h1 hS.1) (fun z => h2 (hA q (Nat.lt_of_lt_of_le h1 hS.1) z))]; exact hS.2.1 q h1 h2, fun q hq => by
      rcases List.mem_append.mp hq with h | h
      · exact hS.2.2 q h
      · exact hf _ (hL q h)⟩⟩
theorem vx_calli {S SX : Type} {post : Int32 → S → Prop} {px : SX → Prop} {B : S → State → Prop} {BX : String → SX → State → Prop} {AX : Nat → Prop} (hr : vx_Run p l e R s m args below meth c H locs cells slots mc ms (F0 m pc ls st0) rest (va_Qi post B A1 a) (vx_X px BX AX) free) (hS : va_S A0 H0 H locs) (hA : ∀ q, q < H.size → A1 q → A0 q) (hf : ∀ q, free q → A0 q) (hAX : ∀ q, q < H.size → AX q → A0 q)
    (kx : ∀ (E : String) (ce : Cell) (q9 : Addr) (u : SX) (t : State) (H1 : Heap) (locs1 : List Loc), t.heap = H1 → s.vm.Alike t.vm → px u → BX E u t → H.size ≤ H1.size → (∀ q : Nat, q < H.size → ¬ AX q → H1[q]? = H[q]?) → va_S A0 H0 H1 locs1 → H1[q9]? = some ce → ce.vm = .none → s.vm.findClass E = some ce.cls → vx_W p l e R s m args below meth c H1 locs1 (cells + mc) (slots + ms) Q (F0 m pc ls rest) q9)
    (kk : ∀ (r : Int32) (u : S) (t : State) (H1 : Heap) (locs1 : List Loc), t.heap = H1 → s.vm.Alike t.vm → post r u → B u t → H.size ≤ H1.size → (∀ q : Nat, q < H.size → ¬ A1 q → H1[q]? = H[q]?) → va_S A0 H0 H1 locs1 → W p l e R s m args below meth c H1 locs1 (cells + mc) (slots + ms) Q (F0 m (pc + 3) ls (.int r :: rest))) : W p l e R s m args below meth c H locs cells slots Q (F0 m pc ls st0) := by
  intro T hT X
  rcases hr T hT X with ⟨v, st₀, t, T', L, h0, X', hL, e1, e2, ⟨⟨r, u, hv, hp, hb⟩, hF⟩, st⟩ | ⟨q, st₀, t, T', L, E, ce, h0, X', hL, e1, e2, ⟨u, hp, hb, hF⟩, hce, hcv, hcl, st⟩
  · cases hv
    obtain ⟨k1, k2, k3⟩ := vx_keep h0 e1 hS hA hf hL hF
    obtain ⟨t2, a1, b1⟩ := kk r u t T'.heap (locs ++ L) e1.symm (by rw [← e2]; exact X'.warmed.alike) hp hb k1 k2 k3 T' rfl X'
    exact ⟨t2, st t2 a1, b1⟩
  · obtain ⟨k1, k2, k3⟩ := vx_keep h0 e1 hS hAX hf hL hF
    obtain ⟨t2, a1, b1⟩ := kx E ce q u t T'.heap (locs ++ L) e1.symm (by rw [← e2]; exact X'.warmed.alike) hp hb k1 k2 k3 (by rw [e1]; exact hce) hcv hcl T' rfl X'
    exact ⟨t2, st.trans a1, b1⟩
theorem vx_calll {S SX : Type} {post : Int64 → S → Prop} {px : SX → Prop} {B : S → State → Prop} {BX : String → SX → State → Prop} {AX : Nat → Prop} (hr : vx_Run p l e R s m args below meth c H locs cells slots mc ms (F0 m pc ls st0) rest (va_Ql post B A1 a) (vx_X px BX AX) free) (hS : va_S A0 H0 H locs) (hA : ∀ q, q < H.size → A1 q → A0 q) (hf : ∀ q, free q → A0 q) (hAX : ∀ q, q < H.size → AX q → A0 q)
    (kx : ∀ (E : String) (ce : Cell) (q9 : Addr) (u : SX) (t : State) (H1 : Heap) (locs1 : List Loc), t.heap = H1 → s.vm.Alike t.vm → px u → BX E u t → H.size ≤ H1.size → (∀ q : Nat, q < H.size → ¬ AX q → H1[q]? = H[q]?) → va_S A0 H0 H1 locs1 → H1[q9]? = some ce → ce.vm = .none → s.vm.findClass E = some ce.cls → vx_W p l e R s m args below meth c H1 locs1 (cells + mc) (slots + ms) Q (F0 m pc ls rest) q9)
    (kk : ∀ (r : Int64) (u : S) (t : State) (H1 : Heap) (locs1 : List Loc), t.heap = H1 → s.vm.Alike t.vm → post r u → B u t → H.size ≤ H1.size → (∀ q : Nat, q < H.size → ¬ A1 q → H1[q]? = H[q]?) → va_S A0 H0 H1 locs1 → W p l e R s m args below meth c H1 locs1 (cells + mc) (slots + ms) Q (F0 m (pc + 3) ls (.long r :: rest))) : W p l e R s m args below meth c H locs cells slots Q (F0 m pc ls st0) := by
  intro T hT X
  rcases hr T hT X with ⟨v, st₀, t, T', L, h0, X', hL, e1, e2, ⟨⟨r, u, hv, hp, hb⟩, hF⟩, st⟩ | ⟨q, st₀, t, T', L, E, ce, h0, X', hL, e1, e2, ⟨u, hp, hb, hF⟩, hce, hcv, hcl, st⟩
  · cases hv
    obtain ⟨k1, k2, k3⟩ := vx_keep h0 e1 hS hA hf hL hF
    obtain ⟨t2, a1, b1⟩ := kk r u t T'.heap (locs ++ L) e1.symm (by rw [← e2]; exact X'.warmed.alike) hp hb k1 k2 k3 T' rfl X'
    exact ⟨t2, st t2 a1, b1⟩
  · obtain ⟨k1, k2, k3⟩ := vx_keep h0 e1 hS hAX hf hL hF
    obtain ⟨t2, a1, b1⟩ := kx E ce q u t T'.heap (locs ++ L) e1.symm (by rw [← e2]; exact X'.warmed.alike) hp hb k1 k2 k3 (by rw [e1]; exact hce) hcv hcl T' rfl X'
    exact ⟨t2, st.trans a1, b1⟩
theorem vx_callf {S SX : Type} {post : UInt32 → S → Prop} {px : SX → Prop} {B : S → State → Prop} {BX : String → SX → State → Prop} {AX : Nat → Prop} (hr : vx_Run p l e R s m args below meth c H locs cells slots mc ms (F0 m pc ls st0) rest (va_Qf post B A1 a) (vx_X px BX AX) free) (hS : va_S A0 H0 H locs) (hA : ∀ q, q < H.size → A1 q → A0 q) (hf : ∀ q, free q → A0 q) (hAX : ∀ q, q < H.size → AX q → A0 q)
    (kx : ∀ (E : String) (ce : Cell) (q9 : Addr) (u : SX) (t : State) (H1 : Heap) (locs1 : List Loc), t.heap = H1 → s.vm.Alike t.vm → px u → BX E u t → H.size ≤ H1.size → (∀ q : Nat, q < H.size → ¬ AX q → H1[q]? = H[q]?) → va_S A0 H0 H1 locs1 → H1[q9]? = some ce → ce.vm = .none → s.vm.findClass E = some ce.cls → vx_W p l e R s m args below meth c H1 locs1 (cells + mc) (slots + ms) Q (F0 m pc ls rest) q9)
    (kk : ∀ (r : UInt32) (u : S) (t : State) (H1 : Heap) (locs1 : List Loc), t.heap = H1 → s.vm.Alike t.vm → post r u → B u t → H.size ≤ H1.size → (∀ q : Nat, q < H.size → ¬ A1 q → H1[q]? = H[q]?) → va_S A0 H0 H1 locs1 → W p l e R s m args below meth c H1 locs1 (cells + mc) (slots + ms) Q (F0 m (pc + 3) ls (.float r :: rest))) : W p l e R s m args below meth c H locs cells slots Q (F0 m pc ls st0) := by
  intro T hT X
  rcases hr T hT X with ⟨v, st₀, t, T', L, h0, X', hL, e1, e2, ⟨⟨r, u, hv, hp, hb⟩, hF⟩, st⟩ | ⟨q, st₀, t, T', L, E, ce, h0, X', hL, e1, e2, ⟨u, hp, hb, hF⟩, hce, hcv, hcl, st⟩
  · cases hv
    obtain ⟨k1, k2, k3⟩ := vx_keep h0 e1 hS hA hf hL hF
    obtain ⟨t2, a1, b1⟩ := kk r u t T'.heap (locs ++ L) e1.symm (by rw [← e2]; exact X'.warmed.alike) hp hb k1 k2 k3 T' rfl X'
    exact ⟨t2, st t2 a1, b1⟩
  · obtain ⟨k1, k2, k3⟩ := vx_keep h0 e1 hS hAX hf hL hF
    obtain ⟨t2, a1, b1⟩ := kx E ce q u t T'.heap (locs ++ L) e1.symm (by rw [← e2]; exact X'.warmed.alike) hp hb k1 k2 k3 (by rw [e1]; exact hce) hcv hcl T' rfl X'
    exact ⟨t2, st.trans a1, b1⟩
theorem vx_calld {S SX : Type} {post : UInt64 → S → Prop} {px : SX → Prop} {B : S → State → Prop} {BX : String → SX → State → Prop} {AX : Nat → Prop} (hr : vx_Run p l e R s m args below meth c H locs cells slots mc ms (F0 m pc ls st0) rest (va_Qd post B A1 a) (vx_X px BX AX) free) (hS : va_S A0 H0 H locs) (hA : ∀ q, q < H.size → A1 q → A0 q) (hf : ∀ q, free q → A0 q) (hAX : ∀ q, q < H.size → AX q → A0 q)
    (kx : ∀ (E : String) (ce : Cell) (q9 : Addr) (u : SX) (t : State) (H1 : Heap) (locs1 : List Loc), t.heap = H1 → s.vm.Alike t.vm → px u → BX E u t → H.size ≤ H1.size → (∀ q : Nat, q < H.size → ¬ AX q → H1[q]? = H[q]?) → va_S A0 H0 H1 locs1 → H1[q9]? = some ce → ce.vm = .none → s.vm.findClass E = some ce.cls → vx_W p l e R s m args below meth c H1 locs1 (cells + mc) (slots + ms) Q (F0 m pc ls rest) q9)
    (kk : ∀ (r : UInt64) (u : S) (t : State) (H1 : Heap) (locs1 : List Loc), t.heap = H1 → s.vm.Alike t.vm → post r u → B u t → H.size ≤ H1.size → (∀ q : Nat, q < H.size → ¬ A1 q → H1[q]? = H[q]?) → va_S A0 H0 H1 locs1 → W p l e R s m args below meth c H1 locs1 (cells + mc) (slots + ms) Q (F0 m (pc + 3) ls (.double r :: rest))) : W p l e R s m args below meth c H locs cells slots Q (F0 m pc ls st0) := by
  intro T hT X
  rcases hr T hT X with ⟨v, st₀, t, T', L, h0, X', hL, e1, e2, ⟨⟨r, u, hv, hp, hb⟩, hF⟩, st⟩ | ⟨q, st₀, t, T', L, E, ce, h0, X', hL, e1, e2, ⟨u, hp, hb, hF⟩, hce, hcv, hcl, st⟩
  · cases hv
    obtain ⟨k1, k2, k3⟩ := vx_keep h0 e1 hS hA hf hL hF
    obtain ⟨t2, a1, b1⟩ := kk r u t T'.heap (locs ++ L) e1.symm (by rw [← e2]; exact X'.warmed.alike) hp hb k1 k2 k3 T' rfl X'
    exact ⟨t2, st t2 a1, b1⟩
  · obtain ⟨k1, k2, k3⟩ := vx_keep h0 e1 hS hAX hf hL hF
    obtain ⟨t2, a1, b1⟩ := kx E ce q u t T'.heap (locs ++ L) e1.symm (by rw [← e2]; exact X'.warmed.alike) hp hb k1 k2 k3 (by rw [e1]; exact hce) hcv hcl T' rfl X'
    exact ⟨t2, st.trans a1, b1⟩
theorem vx_callv {S SX : Type} {post : S → Prop} {px : SX → Prop} {B : S → State → Prop} {BX : String → SX → State → Prop} {AX : Nat → Prop} (hr : vx_Run p l e R s m args below meth c H locs cells slots mc ms (F0 m pc ls st0) rest (va_Qv post B A1 a) (vx_X px BX AX) free) (hS : va_S A0 H0 H locs) (hA : ∀ q, q < H.size → A1 q → A0 q) (hf : ∀ q, free q → A0 q) (hAX : ∀ q, q < H.size → AX q → A0 q)
    (kx : ∀ (E : String) (ce : Cell) (q9 : Addr) (u : SX) (t : State) (H1 : Heap) (locs1 : List Loc), t.heap = H1 → s.vm.Alike t.vm → px u → BX E u t → H.size ≤ H1.size → (∀ q : Nat, q < H.size → ¬ AX q → H1[q]? = H[q]?) → va_S A0 H0 H1 locs1 → H1[q9]? = some ce → ce.vm = .none → s.vm.findClass E = some ce.cls → vx_W p l e R s m args below meth c H1 locs1 (cells + mc) (slots + ms) Q (F0 m pc ls rest) q9)
    (kk : ∀ (u : S) (t : State) (H1 : Heap) (locs1 : List Loc), t.heap = H1 → s.vm.Alike t.vm → post u → B u t → H.size ≤ H1.size → (∀ q : Nat, q < H.size → ¬ A1 q → H1[q]? = H[q]?) → va_S A0 H0 H1 locs1 → W p l e R s m args below meth c H1 locs1 (cells + mc) (slots + ms) Q (F0 m (pc + 3) ls (rest))) : W p l e R s m args below meth c H locs cells slots Q (F0 m pc ls st0) := by
  intro T hT X
  rcases hr T hT X with ⟨v, st₀, t, T', L, h0, X', hL, e1, e2, ⟨⟨u, hv, hp, hb⟩, hF⟩, st⟩ | ⟨q, st₀, t, T', L, E, ce, h0, X', hL, e1, e2, ⟨u, hp, hb, hF⟩, hce, hcv, hcl, st⟩
  · cases hv
    obtain ⟨k1, k2, k3⟩ := vx_keep h0 e1 hS hA hf hL hF
    obtain ⟨t2, a1, b1⟩ := kk u t T'.heap (locs ++ L) e1.symm (by rw [← e2]; exact X'.warmed.alike) hp hb k1 k2 k3 T' rfl X'
    exact ⟨t2, st t2 a1, b1⟩
  · obtain ⟨k1, k2, k3⟩ := vx_keep h0 e1 hS hAX hf hL hF
    obtain ⟨t2, a1, b1⟩ := kx E ce q u t T'.heap (locs ++ L) e1.symm (by rw [← e2]; exact X'.warmed.alike) hp hb k1 k2 k3 (by rw [e1]; exact hce) hcv hcl T' rfl X'
    exact ⟨t2, st.trans a1, b1⟩
/-- caught by the row x of this method's table; the rows ahead don't take it -/
theorem vx_catch {own name : String} {E : String} {ce : Cell} {q : Addr} (hown : s.vm.findClass own = some m.cls) (pre : List ExceptionTableEntry) (x : ExceptionTableEntry) (suf : List ExceptionTableEntry) (hsplit : c.exceptionTable.toList = pre ++ x :: suf)
    (hpass : ∀ z ∈ pre, covers z pc = false ∨ (z.catchType ≠ 0 ∧ ∃ nm : String, (Cond.classLink own z.catchType nm).before args s = true ∧ va_Nc E nm s)) (hx : covers x pc = true) (h0 : x.catchType ≠ 0)
    (hlink : (Cond.classLink own x.catchType name).before args s = true) (hcast : (Cond.castable E name).before args s = true) (hcell : H[q]? = some ce) (hv : ce.vm = .none) (hcl : s.vm.findClass E = some ce.cls)
    (kk : W p l e R s m args below meth c H locs cells slots Q (F0 m x.handlerPc ls [.ref q])) : vx_W p l e R s m args below meth c H locs cells slots Q (F0 m pc ls rest) q := by
  intro T hT X
  have hpl : e.platform.magicAccessors = ({} : Platform).magicAccessors := by rw [X.admits.platform]
  obtain ⟨c3, c4, hc3, hc4, hasg⟩ := Cond.castable_spec hcast
  cases Option.some.inj (hc3.symm.trans hcl)
  obtain ⟨c5, hc5, hcl5⟩ := Cond.classLink_spec hown hlink e.platform hpl
  cases Option.some.inj (hc4.symm.trans hc5)
  obtain ⟨vm', X', st⟩ := X.thenCaughtThrough q (g := F0 m pc ls rest) rfl (Steps.refl _) (by rw [hT]; exact hcell) (by rw [hv]; rfl) (by obtain ⟨k9, h9, -⟩ := Vm.findClass_spec hcl; exact ⟨k9, h9⟩) pre x suf hsplit
    (fun z hz => by
      rcases hpass z hz with h | ⟨hz0, nm, hl1, hn1⟩
      · exact Or.inl h
      · obtain ⟨c6, hc6, hcl6⟩ := Cond.classLink_spec hown hl1 e.platform hpl
        obtain ⟨a8, b8, h1, h2, h3⟩ := hn1
        cases Option.some.inj (h1.symm.trans hcl)
        cases Option.some.inj (h2.symm.trans hc6)
        exact Or.inr ⟨hz0, _, hcl6, h3⟩) hx (Or.inr ⟨h0, c4, hcl5, hasg⟩)
  obtain ⟨t, a1, b1⟩ := kk (T.setVm vm') hT X'
  exact ⟨t, st.trans a1, b1⟩
end Rows
section Ends
variable {p : Program} {l : Launch} {e : Env} {R : Room} {s : State} {m : MethodId} {args : Array Value} {below : List Frame} {meth : Method} {c : Code} {H : Heap} {locs : List Loc} {cells slots : Nat} {Q : State → Prop}
variable {mc ms : Nat} {free : Addr → Prop} {A0 A1 : Nat → Prop} {H0 : Heap} {a : Array Value} {ls : Array Slot} {st0 rest : List Value}
variable {Qc : Array Value → State → Outcome → State → Prop} {XC : String → State → State → Prop}
/-- what a body that may throw owes at its end -/
def vx_MQ (below : List Frame) (Qc : Array Value → State → Outcome → State → Prop) (XC : String → State → State → Prop) (a : Array Value) (s : State) (mc ms : Nat) (free : Addr → Prop) : State → Prop := fun t =>
  ∃ o, t.status = .running ∧ Ended t below o ∧ vx_Q Qc XC mc ms free a s o t
theorem vx_ret {g : JFrame} {mc ms : Nat} (k : W p l e R s m args below meth c H locs cells slots (MQ below Qc args s mc ms free) g) : W p l e R s m args below meth c H locs cells slots (vx_MQ below Qc XC args s mc ms free) g := by
  intro T hT X
  obtain ⟨t, a1, o, b1, b2, b3, b4⟩ := k T hT X
  exact ⟨t, a1, o, b1, b2, Or.inl ⟨b3, b4⟩⟩
/-- not caught here: it goes on to the caller -/
theorem vx_widen {g : JFrame} {q : Addr} {k n : Nat} (h1 : cells ≤ k) (h2 : slots ≤ n) (kk : vx_W p l e R s m args below meth c H locs k n Q g q) : vx_W p l e R s m args below meth c H locs cells slots Q g q := fun T hT X => kk T hT (stand_widen X h1 h2)
theorem vx_out {pc : Nat} {E : String} {ce : Cell} {q : Addr} {mc ms : Nat} (hout : ∀ x ∈ c.exceptionTable.toList, covers x pc = false) (hlocks : meth.locks = false) (hcell : H[q]? = some ce) (hv : ce.vm = .none) (hcl : s.vm.findClass E = some ce.cls)
    (hx : ∀ t : State, t.heap = H → s.vm.Alike t.vm → XC E s t) (hf : ∀ z ∈ locs, free z.base) (hc : cells ≤ mc) (hs : slots ≤ ms) :
    vx_W p l e R s m args below meth c H locs cells slots (vx_MQ below Qc XC args s mc ms free) (F0 m pc ls rest) q := by
  intro T hT X
  obtain ⟨st1, hrun, hend, hW, hsm⟩ := X.leaveThrown q (g := F0 m pc ls rest) rfl rfl rfl hout hlocks
  have hcell9 : (T.setFrames (.throwing q :: below)).heap[q]? = some ce := by
    show T.heap[q]? = some ce
    rw [hT]; exact hcell
  exact ⟨_, st1, .threw q, hrun, hend, Or.inr ⟨q, rfl, E, ce, locs, hx _ hT hW.alike, hcell9, hv, hcl, hW, hsm.mono hc hs, hf⟩⟩
theorem vx_frame {U : State} {k n : Nat} (h : s.sameButNew ({ U with vm := s.vm } : State) locs k n) : s.heap.size ≤ U.heap.size ∧ ∀ q : Nat, q < s.heap.size → (∀ z ∈ locs, z.base ≠ q) → U.heap[q]? = s.heap[q]? := by
  obtain ⟨-, h2, -, -, -, h6⟩ := h
  refine ⟨h2, fun q hq hz => ?_⟩
  obtain ⟨c9, e1, e2, e3, e4⟩ := h6 q _ (Array.getElem?_eq_getElem hq)
  have hs : c9.slots = (s.heap[q]).slots := Array.ext_getElem? fun i => e4 i fun hm => hz _ hm rfl
  have h9 : c9 = s.heap[q] := by
    rw [hs] at e2
    exact e2
  have e5 : U.heap[q]? = some c9 := e1
  rw [e5, h9, Array.getElem?_eq_getElem hq]
/-- the words of a throw but the four that speak of the heap -/
def vx_no (w : Cond) : Bool := decide (w ≠ .isRef (.static Bundle.tN "UNASSIGNED_STACK" Bundle.steD)) && decide (w ≠ .isRef (.static Bundle.tN "SUPPRESSED_SENTINEL" Bundle.listD)) && decide (w ≠ .laysStatic Bundle.tN "UNASSIGNED_STACK" Bundle.steD) && decide (w ≠ .laysStatic Bundle.tN "SUPPRESSED_SENTINEL" Bundle.listD)
def vx_at0 (own : String) (ic : Nat) (X : String) (names : List String) : List Cond := (Bundle.ownAtoms0 own ic X names).filter vx_no
def vx_atS (own : String) (ic : Nat) (X : String) (names : List String) : List Cond := (Bundle.ownAtoms own ic X names).filter vx_no
/-- a word that the tables alone decide, or a good one -/
def vx_ot (w : Cond) : Bool := w.onTables || goodWord w
theorem vx_ot_at {args a' : Array Value} {s U : State} {w : Cond} (hW : s.WarmedH U.vm) (hvm : s.vm = U.vm) (hg : vx_ot w = true) (h : w.before args s = true) : w.before a' U = true := by
  simp only [vx_ot, Bool.or_eq_true] at hg
  rcases hg with hg | hg
  · exact va_tabs hg hvm h
  · exact word_at hW (good_of_word hg) h
/-- a list's words: the good ones out of the method's own list, the others by premises of their own -/
theorem vx_hat {args : Array Value} {s : State} {L B : List Cond} (h1 : ∀ w ∈ L.filter goodWord, w.before args s = true) (h2 : ∀ w ∈ L.filter (fun w => !goodWord w), w ∈ B) (h3 : ∀ w ∈ B, w.before args s = true) : ∀ w ∈ L, w.before args s = true := by
  intro w hw
  by_cases g : goodWord w = true
  · exact h1 w (List.mem_filter.mpr ⟨hw, g⟩)
  · refine h3 w (h2 w (List.mem_filter.mpr ⟨hw, ?_⟩))
    show (!goodWord w) = true
    cases hgw : goodWord w
    · rfl
    · exact absurd hgw g
theorem vx_c {args : Array Value} {s : State} {w : Cond} {B : List Cond} (h : w.before args s = true) (t : ∀ w ∈ B, w.before args s = true) : ∀ w' ∈ w :: B, w'.before args s = true := fun w' h' => (List.mem_cons.mp h').elim (fun e => by rw [e]; exact h) (t w')
theorem vx_n {args : Array Value} {s : State} : ∀ w ∈ ([] : List Cond), w.before args s = true := fun _ h => nomatch h
theorem vx_own {args : Array Value} {s : State} {L : List Cond} (h1 : ∀ w ∈ L.filter vx_no, w.before args s = true)
    (hU : (Cond.isRef (.static Bundle.tN "UNASSIGNED_STACK" Bundle.steD)).before args s = true) (hN : (Cond.isRef (.static Bundle.tN "SUPPRESSED_SENTINEL" Bundle.listD)).before args s = true)
    (lU : (Cond.laysStatic Bundle.tN "UNASSIGNED_STACK" Bundle.steD).before args s = true) (lN : (Cond.laysStatic Bundle.tN "SUPPRESSED_SENTINEL" Bundle.listD).before args s = true) : ∀ w ∈ L, w.before args s = true := by
  intro w hw
  by_cases e1 : w = .isRef (.static Bundle.tN "UNASSIGNED_STACK" Bundle.steD)
  · rw [e1]; exact hU
  · by_cases e2 : w = .isRef (.static Bundle.tN "SUPPRESSED_SENTINEL" Bundle.listD)
    · rw [e2]; exact hN
    · by_cases e3 : w = .laysStatic Bundle.tN "UNASSIGNED_STACK" Bundle.steD
      · rw [e3]; exact lU
      · by_cases e4 : w = .laysStatic Bundle.tN "SUPPRESSED_SENTINEL" Bundle.listD
        · rw [e4]; exact lN
        · exact h1 w (List.mem_filter.mpr ⟨hw, by unfold vx_no; rw [decide_eq_true e1, decide_eq_true e2, decide_eq_true e3, decide_eq_true e4]; rfl⟩)
/-- where a static field lies, its class's statics cell in H -/
def vx_L (C n d : String) (A : Nat → Prop) (U : State) (H : Heap) : Prop := ∃ (c : ClassId) (k : Class) (i : Nat) (f : Field) (a : Nat) (cell : Cell), U.vm.findClass C = some c ∧ U.fieldFound? C n d = some (c, k, i, f) ∧ f.isStatic = true ∧ k.statics = some a ∧ H[a]? = some cell ∧ cell.vm.isStatics = true ∧ cell.cls = c ∧ f.slot < cell.slots.size ∧ k.staticTypes[f.slot]? = some f.type ∧ ¬ A a
theorem vx_L.moved {C n d : String} {A : Nat → Prop} {u U : State} {H : Heap} (hvm : u.vm.Alike U.vm) (h : vx_L C n d A u H) : vx_L C n d A U H := by
  obtain ⟨c, k, i, f, a, cell, h1, h2, h3, h4, h5, h6, h7, h8, h9, h10⟩ := h
  obtain ⟨k', hi', he⟩ := State.fieldFound?_setVm hvm h2
  exact ⟨c, k', i, f, a, cell, by rw [hvm.findClass]; exact h1, hi', h3, by rw [he]; exact h4, h5, h6, h7, h8, by rw [he]; exact h9, h10⟩
theorem vx_L.kept {C n d : String} {A : Nat → Prop} {U : State} {H H1 : Heap} (h : vx_L C n d A U H) (hq : ∀ a : Nat, a < H.size → ¬ A a → H1[a]? = H[a]?) : vx_L C n d A U H1 := by
  obtain ⟨c, k, i, f, a, cell, h1, h2, h3, h4, h5, h6, h7, h8, h9, h10⟩ := h
  exact ⟨c, k, i, f, a, cell, h1, h2, h3, h4, by rw [hq a (Array.getElem?_eq_some_iff.mp h5).1 h10]; exact h5, h6, h7, h8, h9, h10⟩
theorem vx_L.narrow {C n d : String} {A B : Nat → Prop} {U : State} {H : Heap} (h : vx_L C n d A U H) (hAB : ∀ q, B q → A q) : vx_L C n d B U H := by
  obtain ⟨c, k, i, f, a, cell, h1, h2, h3, h4, h5, h6, h7, h8, h9, h10⟩ := h
  exact ⟨c, k, i, f, a, cell, h1, h2, h3, h4, h5, h6, h7, h8, h9, fun z => h10 (hAB _ z)⟩
theorem vx_L.word {C n d : String} {A : Nat → Prop} {s : State} {args : Array Value} (h : vx_L C n d A s s.heap) : (Cond.laysStatic C n d).before args s = true := by
  obtain ⟨c, k, i, f, a, cell, h1, h2, h3, h4, h5, h6, h7, h8, h9, -⟩ := h
  show (Cond.laysStatic C n d).holds args s none s [] = true
  exact Cond.laysStatic_of h1 h2 h3 h4 h5 h6 h7 h8 h9
/-- .. and what it holds: null or some reference -/
def vx_Zq (C n d : String) (A : Nat → Prop) (U : State) (H : Heap) : Prop := va_Zq C n d A U H ∧ vx_L C n d A U H
theorem vx_Zq.moved {C n d : String} {A : Nat → Prop} {u U : State} {H : Heap} (hvm : u.vm.Alike U.vm) (h : vx_Zq C n d A u H) : vx_Zq C n d A U H := ⟨va_Zq.moved hvm h.1, vx_L.moved hvm h.2⟩
theorem vx_Zq.kept {C n d : String} {A : Nat → Prop} {U : State} {H H1 : Heap} (h : vx_Zq C n d A U H) (hq : ∀ a : Nat, a < H.size → ¬ A a → H1[a]? = H[a]?) : vx_Zq C n d A U H1 := ⟨va_Zq.kept h.1 hq, vx_L.kept h.2 hq⟩
theorem vx_Zq.narrow {C n d : String} {A B : Nat → Prop} {U : State} {H : Heap} (h : vx_Zq C n d A U H) (hAB : ∀ q, B q → A q) : vx_Zq C n d B U H := ⟨va_Zq.narrow h.1 hAB, vx_L.narrow h.2 hAB⟩
theorem vx_Zqof {args : Array Value} {s : State} {C n d : String} {A : Nat → Prop} (hl : (Cond.laysStatic C n d).before args s = true) (hini : (Cond.initialized C).before args s = true) (h : (Cond.isRef (.static C n d)).before args s = true) (hA : ∀ a : Nat, a < s.heap.size → ¬ A a) : vx_Zq C n d A s s.heap := by
  refine ⟨va_Zqof hl hini h hA, ?_⟩
  obtain ⟨c, k, i, f, a, cell, h1, h2, h3, h4, h5, h6, h7, h8, h9⟩ := Cond.laysStatic_spec hl
  exact ⟨c, k, i, f, a, cell, h1, h2, h3, h4, h5, h6, h7, h8, h9, hA a (Array.getElem?_eq_some_iff.mp h5).1⟩
theorem vx_isRef {C n d : String} {v : Value} {A : Nat → Prop} {s : State} {args : Array Value} (h : va_Z C n d v A s s.heap) (hv : v.isRef = true) : (Cond.isRef (.static C n d)).before args s = true := by
  obtain ⟨cf, kf, fi, f, a, cell, h1, h2, h3, h4, h5, h6, h7, -⟩ := h
  have he : (Term.static C n d).eval args s none [] s = some v := by
    simp [Term.eval, State.fieldNamed?, h1, h2, h4, h5, h6, h7]
  simp only [Cond.before, Cond.holds, Cond.value, he]
  cases v <;> simp_all [Value.isRef]
theorem vx_isRefq {C n d : String} {A : Nat → Prop} {s : State} {args : Array Value} (h : va_Zq C n d A s s.heap) : (Cond.isRef (.static C n d)).before args s = true := by
  rcases h with h | ⟨t, h⟩
  · exact vx_isRef h rfl
  · exact vx_isRef h rfl
/-- the same frame, seen from here: as if the method were called anew in this heap -/
theorem vx_rebase {T : State} (X : Stand p l e R s m args below meth c T locs cells slots) {R' : Room} (hf : R'.frames ≤ R.frames) (hl : R'.locals ≤ R.locals) (hc : cells + R'.cells ≤ R.cells) (hs : slots + R'.slots ≤ R.slots) :
    Stand p l e R' ((T.setVm s.vm).setFrames (.invoking m args :: below)) m args below meth c T [] 0 0 := by
  have htop : (T.setVm s.vm).topJava?.isSome := X.here.top
  have hF : ((T.setVm s.vm).setFrames (.invoking m args :: below)).frames = .invoking m args :: below := State.frames_setFrames _ (State.cur_lt_of_top htop)
  obtain ⟨g₀, hg0⟩ := Option.isSome_iff_exists.mp htop
  obtain ⟨r, hr⟩ := State.topJava?_eq_some.mp hg0
  have hl9 : e.platform.stackLimits (T.setVm s.vm).me = e.platform.stackLimits s.me := X.limits
  have hb9 : (T.setVm s.vm).me.stackBytes = s.me.stackBytes := X.bytes
  refine ⟨X.admits, X.cas, X.clock, hF, ?_, X.hears, X.method, X.code, X.here, X.tail, X.warmed, ?_, ?_, ?_⟩
  · have h := X.room
    have hU : ((T.setVm s.vm).setFrames (.invoking m args :: below)).localsInUse = s.localsInUse := by
      rw [State.localsInUse_invoking hF (meth := meth) (c := c) X.method X.code, State.localsInUse_invoking X.frames X.method X.code]
    simp only [State.hasRoom, Bool.and_eq_true, decide_eq_true_eq] at h ⊢
    obtain ⟨⟨⟨⟨h1, h2, h3, h4, h5, h6⟩, h7⟩, h8⟩, h9⟩ := h
    rw [X.frames, List.length_cons] at h2 h3
    have q1 := X.heapSize
    have q2 := X.used
    simp only [hF, hU, List.length_cons, State.stackLimits_setFrames, State.stackBytes_setFrames, hl9, hb9]
    refine ⟨⟨⟨⟨by omega, by omega, by omega, by omega, by omega, h6⟩, ?_⟩, ?_⟩, X.book⟩
    · show T.heap.size + R'.cells ≤ e.platform.maxCells
      omega
    · show T.slotsUsed + R'.slots ≤ e.platform.maxSlots
      omega
  · rw [State.stackLimits_setFrames]; rfl
  · rw [State.stackBytes_setFrames]; rfl
  · refine ⟨?_, Nat.le_refl _, Nat.le_refl _, ?_, ?_, fun a c9 h9 => ⟨c9, h9, rfl, rfl, fun _ _ => rfl⟩⟩
    · obtain ⟨t, ht, -⟩ := State.frames_cons hr
      show T.setVm s.vm = { ((T.setVm s.vm).setFrames (.invoking m args :: below)).setFrames (T.setVm s.vm).frames with heap := T.heap, slotsUsed := T.slotsUsed }
      rw [State.setFrames_setFrames, State.setFrames_self ht]
      rfl
    · show T.slotsUsed = T.slotsUsed + ((T.heap.toList.drop T.heap.size).map (·.slots.size)).sum
      rw [List.drop_eq_nil_of_le (Nat.le_of_eq Array.length_toList)]
      rfl
    · show ((T.heap.toList.drop T.heap.size).map (·.slots.size)).sum ≤ 0
      rw [List.drop_eq_nil_of_le (Nat.le_of_eq Array.length_toList)]
      exact Nat.le_refl _
/-- 'throw new E()': new; dup; invokespecial; athrow -/
theorem vx_throw0 {cc : ByteArray} {pc : Nat} (hexec : p.tables.exec = Jvm.exec) (hb : c.code = cc) (hl : l.stackTraces = false) {own cls : String} {names : List String} {ik ic mc ms : Nat} {A : Nat → Prop}
    (hown : s.vm.findClass own = some m.cls) (hcls : Bundle.fit cls = true) (hnames : ∀ n ∈ names, Bundle.fit n = true)
    (hk : (Cond.classLink own ik cls).before args s = true) (hini : (Cond.initialized cls).before args s = true) (hat : ∀ w ∈ vx_at0 own ic cls names, w.before args s = true)
    (hgood : ∀ w ∈ Cond.classLink own ik cls :: Cond.initialized cls :: vx_at0 own ic cls names, vx_ot w = true)
    (hU : vx_Zq Bundle.tN "UNASSIGNED_STACK" Bundle.steD A s s.heap) (hN : vx_Zq Bundle.tN "SUPPRESSED_SENTINEL" Bundle.listD A s s.heap) (hS : va_S A s.heap H locs) (hsize : ls.size = c.maxLocals)
    (d0 : decode cc pc = .ok (.new ik, 3)) (d3 : decode cc (pc + 3) = .ok (.dup, 1)) (d4 : decode cc (pc + 4) = .ok (.invokespecial ic, 3)) (d7 : decode cc (pc + 7) = .ok (.athrow, 1))
    (hout : ∀ x ∈ c.exceptionTable.toList, covers x (pc + 7) = false)
    (hRframes : names.length + 3 < R.frames) (hRlocals : (rest.map fun v => v.category).sum + (13 * (names.length + 1) + 42) ≤ R.locals) (hRcells : cells + 1 ≤ R.cells) (hRslots : slots + 6 ≤ R.slots) (hlocks : meth.locks = false)
    (hx : ∀ t : State, s.vm.Alike t.vm → H.size ≤ t.heap.size → (∀ q : Nat, q < H.size → t.heap[q]? = H[q]?) → XC cls s t)
    (hf : ∀ z ∈ locs, free z.base) (hc : cells + 1 ≤ mc) (hs : slots + 6 ≤ ms) :
    W p l e R s m args below meth c H locs cells slots (vx_MQ below Qc XC args s mc ms free) (F0 m pc ls rest) := by
  intro T hT X
  have htr : e.platform.stackTraces = false := (show e.platform.stackTraces = l.stackTraces by rw [X.admits.platform]).trans hl
  have Y := vx_rebase X (R' := { frames := R.frames, locals := R.locals, cells := 1, slots := 6 }) (Nat.le_refl _) (Nat.le_refl _) hRcells hRslots
  obtain ⟨s', hA⟩ : ∃ z, z = (T.setVm s.vm).setFrames (.invoking m args :: below) := ⟨_, rfl⟩
  rw [← hA] at Y
  have hvm : s'.vm = s.vm := by rw [hA]; rfl
  have hhp : s'.heap = H := by rw [hA]; exact hT
  have hW0 : s.WarmedH s'.vm := by rw [hvm]; exact State.WarmedH.refl s
  have hat' : ∀ w ∈ vx_at0 own ic cls names, w.before args s' = true := fun w hw => vx_ot_at hW0 hvm.symm (hgood w (List.mem_cons_of_mem _ (List.mem_cons_of_mem _ hw))) (hat w hw)
  have hk' : (Cond.classLink own ik cls).before args s' = true := vx_ot_at hW0 hvm.symm (hgood _ List.mem_cons_self) hk
  have hini' : (Cond.initialized cls).before args s' = true := vx_ot_at hW0 hvm.symm (hgood _ (List.mem_cons_of_mem _ List.mem_cons_self)) hini
  have hU' : vx_Zq Bundle.tN "UNASSIGNED_STACK" Bundle.steD A s' s'.heap := by rw [hhp]; exact vx_Zq.moved hW0.alike (hU.kept hS.2.1)
  have hN' : vx_Zq Bundle.tN "SUPPRESSED_SENTINEL" Bundle.listD A s' s'.heap := by rw [hhp]; exact vx_Zq.moved hW0.alike (hN.kept hS.2.1)
  have h : ∀ w ∈ Bundle.ownAtoms0 own ic cls names, w.before args s' = true := vx_own hat' (vx_isRefq hU'.1) (vx_isRefq hN'.1) hU'.2.word hN'.2.word
  have hown' : s'.vm.findClass own = some m.cls := by rw [hvm]; exact hown
  have hins : (Cond.instantiable cls 6).before args s' = true := h _ (by simp [Bundle.ownAtoms0])
  obtain ⟨vm₁, cX, kX, hfX, hkX, -, -, X₁, st1⟩ := Y.newCold hexec (own := own) (C := cls) (index := ik) (n := 6) hown' hk' hins hini'
    (g := F0 m pc ls rest) rfl (by rw [hb]; exact d0) (Nat.le_refl _) (Nat.le_refl _)
  generalize hT1 : (T.setVm vm₁).pushCell { cls := cX, slots := kX.instanceTypes.map defaultValue, vm := .none } = T1 at X₁ st1
  have hcat : (Value.ref T.heap.size).category = 1 := rfl
  have hcellA : T1.heap[T.heap.size]? = some (freshCell cX kX) := by rw [← hT1]; exact State.heap_pushCell_size _ _
  have d3' : decode c.code (pc + 3) = .ok (.dup, 1) := by rw [hb]; exact d3
  obtain ⟨U, hsteps, hrun, hend, hW, hsame, ce, hce, hO⟩ := X₁.ctorThrow0 hexec htr (own := own) (cls := cls) (names := names) (ic := ic) hown' hcls hnames h (fun x hx => nomatch hx) hfX hkX hcellA (by rw [hhp, hT]; exact Nat.le_refl _)
    (g := { method := m, pc := pc + 4, locals := ls, stack := .ref T.heap.size :: .ref T.heap.size :: rest, locked := none }) rfl hsize rfl rfl (rest := rest) rfl
    (by rw [hb]; exact d4) (by rw [hb]; exact d7) hout hRframes (by simp only [List.map_cons, List.sum_cons, hcat]; omega) hlocks
  obtain ⟨f1, f2⟩ := vx_frame hsame
  rw [hhp] at f1 f2
  have hWs : s.WarmedH U.vm := State.WarmedH.trans hW0 hW
  have hcl : s.vm.findClass cls = some ce.cls := by
    have h9 := hO.cls
    rw [hvm] at h9
    exact h9
  have hall : s.sameButNew ({ U with vm := s.vm } : State) locs mc ms := by
    subst hA
    obtain ⟨e1, e2⟩ := hsame
    rw [State.setFrames_setFrames] at e1
    have h2 : (T.setVm s.vm).sameButNew ({ U with vm := s.vm } : State) [] (0 + 1) (0 + 6) := ⟨e1, e2⟩
    have h3 := X.same.trans h2
    rw [List.append_nil] at h3
    exact h3.mono hc hs
  refine ⟨U, ?_, .threw T.heap.size, hrun, hend, Or.inr ⟨T.heap.size, rfl, cls, ce, locs, hx U hWs.alike f1 (fun q hq => f2 q hq (fun z hz => nomatch hz)), hce, hO.vm, hcl, hWs, hall, hf⟩⟩
  refine st1 _ ?_
  show Steps p.tables e below (T1.setTop { method := m, pc := pc + 3, locals := ls, stack := .ref T.heap.size :: rest, locked := none }) _
  jvm_step X₁.here [X₁.here.top, hexec, d3', Value.category]
  exact hsteps
/-- 'throw new E("text")': new; dup; ldc; invokespecial; athrow -/
theorem vx_throwS {cc : ByteArray} {pc : Nat} (hexec : p.tables.exec = Jvm.exec) (hb : c.code = cc) (hl : l.stackTraces = false) {own cls text : String} {names : List String} {ik is ic mc ms sa : Nat} {A : Nat → Prop}
    (hown : s.vm.findClass own = some m.cls) (hcls : Bundle.fit cls = true) (hnames : ∀ n ∈ names, Bundle.fit n = true)
    (hk : (Cond.classLink own ik cls).before args s = true) (hini : (Cond.initialized cls).before args s = true) (hstr : vk_R own is text sa s) (hat : ∀ w ∈ vx_atS own ic cls names, w.before args s = true)
    (hgood : ∀ w ∈ Cond.classLink own ik cls :: Cond.initialized cls :: vx_atS own ic cls names, vx_ot w = true)
    (hU : vx_Zq Bundle.tN "UNASSIGNED_STACK" Bundle.steD A s s.heap) (hN : vx_Zq Bundle.tN "SUPPRESSED_SENTINEL" Bundle.listD A s s.heap) (hS : va_S A s.heap H locs) (hsize : ls.size = c.maxLocals)
    (d0 : decode cc pc = .ok (.new ik, 3)) (d3 : decode cc (pc + 3) = .ok (.dup, 1)) (d4 : decode cc (pc + 4) = .ok (.ldc is, 2)) (d6 : decode cc (pc + 6) = .ok (.invokespecial ic, 3)) (d9 : decode cc (pc + 9) = .ok (.athrow, 1))
    (hout : ∀ x ∈ c.exceptionTable.toList, covers x (pc + 9) = false)
    (hRframes : names.length + 3 < R.frames) (hRlocals : (rest.map fun v => v.category).sum + (13 * (names.length + 1) + 43) ≤ R.locals) (hRcells : cells + 1 ≤ R.cells) (hRslots : slots + 6 ≤ R.slots) (hlocks : meth.locks = false)
    (hx : ∀ t : State, s.vm.Alike t.vm → H.size ≤ t.heap.size → (∀ q : Nat, q < H.size → t.heap[q]? = H[q]?) → XC cls s t)
    (hf : ∀ z ∈ locs, free z.base) (hc : cells + 1 ≤ mc) (hs : slots + 6 ≤ ms) :
    W p l e R s m args below meth c H locs cells slots (vx_MQ below Qc XC args s mc ms free) (F0 m pc ls rest) := by
  intro T hT X
  have htr : e.platform.stackTraces = false := (show e.platform.stackTraces = l.stackTraces by rw [X.admits.platform]).trans hl
  have Y := vx_rebase X (R' := { frames := R.frames, locals := R.locals, cells := 1, slots := 6 }) (Nat.le_refl _) (Nat.le_refl _) hRcells hRslots
  obtain ⟨s', hA⟩ : ∃ z, z = (T.setVm s.vm).setFrames (.invoking m args :: below) := ⟨_, rfl⟩
  rw [← hA] at Y
  have hvm : s'.vm = s.vm := by rw [hA]; rfl
  have hhp : s'.heap = H := by rw [hA]; exact hT
  have hW0 : s.WarmedH s'.vm := by rw [hvm]; exact State.WarmedH.refl s
  have hat' : ∀ w ∈ vx_atS own ic cls names, w.before args s' = true := fun w hw => vx_ot_at hW0 hvm.symm (hgood w (List.mem_cons_of_mem _ (List.mem_cons_of_mem _ hw))) (hat w hw)
  have hk' : (Cond.classLink own ik cls).before args s' = true := vx_ot_at hW0 hvm.symm (hgood _ List.mem_cons_self) hk
  have hini' : (Cond.initialized cls).before args s' = true := vx_ot_at hW0 hvm.symm (hgood _ (List.mem_cons_of_mem _ List.mem_cons_self)) hini
  have hU' : vx_Zq Bundle.tN "UNASSIGNED_STACK" Bundle.steD A s' s'.heap := by rw [hhp]; exact vx_Zq.moved hW0.alike (hU.kept hS.2.1)
  have hN' : vx_Zq Bundle.tN "SUPPRESSED_SENTINEL" Bundle.listD A s' s'.heap := by rw [hhp]; exact vx_Zq.moved hW0.alike (hN.kept hS.2.1)
  have h : ∀ w ∈ Bundle.ownAtoms own ic cls names, w.before args s' = true := vx_own hat' (vx_isRefq hU'.1) (vx_isRefq hN'.1) hU'.2.word hN'.2.word
  have hown' : s'.vm.findClass own = some m.cls := by rw [hvm]; exact hown
  have hins : (Cond.instantiable cls 6).before args s' = true := h _ (by simp [Bundle.ownAtoms])
  obtain ⟨vm₁, cX, kX, hfX, hkX, -, -, X₁, st1⟩ := Y.newCold hexec (own := own) (C := cls) (index := ik) (n := 6) hown' hk' hins hini'
    (g := F0 m pc ls rest) rfl (by rw [hb]; exact d0) (Nat.le_refl _) (Nat.le_refl _)
  generalize hT1 : (T.setVm vm₁).pushCell { cls := cX, slots := kX.instanceTypes.map defaultValue, vm := .none } = T1 at X₁ st1
  have hcat : (Value.ref T.heap.size).category = 1 := rfl
  have hcellA : T1.heap[T.heap.size]? = some (freshCell cX kX) := by rw [← hT1]; exact State.heap_pushCell_size _ _
  have d3' : decode c.code (pc + 3) = .ok (.dup, 1) := by rw [hb]; exact d3
  have d4' : decode c.code (pc + 4) = .ok (.ldc is, 2) := by rw [hb]; exact d4
  have hstr' : vk_R own is text sa s' := vk_R.warm hW0 hstr
  obtain ⟨U, hsteps, hrun, hend, hW, hsame, ce, hce, hO⟩ := X₁.ctorThrowS hexec htr (own := own) (cls := cls) (names := names) (ic := ic) hown' hcls hnames h (fun x hx => nomatch hx) hfX hkX hcellA (by rw [hhp, hT]; exact Nat.le_refl _) (msg := .ref sa) rfl
    (g := { method := m, pc := pc + 6, locals := ls, stack := .ref sa :: .ref T.heap.size :: .ref T.heap.size :: rest, locked := none }) rfl hsize rfl rfl (rest := rest) rfl
    (by rw [hb]; exact d6) (by rw [hb]; exact d9) hout hRframes (by simp only [List.map_cons, List.sum_cons, hcat]; omega) hlocks
  obtain ⟨f1, f2⟩ := vx_frame hsame
  rw [hhp] at f1 f2
  have hWs : s.WarmedH U.vm := State.WarmedH.trans hW0 hW
  have hcl : s.vm.findClass cls = some ce.cls := by
    have h9 := hO.cls
    rw [hvm] at h9
    exact h9
  have hall : s.sameButNew ({ U with vm := s.vm } : State) locs mc ms := by
    subst hA
    obtain ⟨e1, e2⟩ := hsame
    rw [State.setFrames_setFrames] at e1
    have h2 : (T.setVm s.vm).sameButNew ({ U with vm := s.vm } : State) [] (0 + 1) (0 + 6) := ⟨e1, e2⟩
    have h3 := X.same.trans h2
    rw [List.append_nil] at h3
    exact h3.mono hc hs
  refine ⟨U, ?_, .threw T.heap.size, hrun, hend, Or.inr ⟨T.heap.size, rfl, cls, ce, locs, hx U hWs.alike f1 (fun q hq => f2 q hq (fun z hz => nomatch hz)), hce, hO.vm, hcl, hWs, hall, hf⟩⟩
  refine st1 _ ?_
  show Steps p.tables e below (T1.setTop { method := m, pc := pc + 3, locals := ls, stack := .ref T.heap.size :: rest, locked := none }) _
  jvm_step X₁.here [X₁.here.top, hexec, d3', Value.category]
  exact X₁.ldcString hexec (own := own) (text := text) (index := is) (a := sa) hown' hstr'.1 hstr'.2
    (g := { method := m, pc := pc + 4, locals := ls, stack := .ref T.heap.size :: .ref T.heap.size :: rest, locked := none }) rfl d4' _ hsteps
/-- 'throw new E("text")', the text by a wide index -/
theorem vx_throwSW {cc : ByteArray} {pc : Nat} (hexec : p.tables.exec = Jvm.exec) (hb : c.code = cc) (hl : l.stackTraces = false) {own cls text : String} {names : List String} {ik is ic mc ms sa : Nat} {A : Nat → Prop}
    (hown : s.vm.findClass own = some m.cls) (hcls : Bundle.fit cls = true) (hnames : ∀ n ∈ names, Bundle.fit n = true)
    (hk : (Cond.classLink own ik cls).before args s = true) (hini : (Cond.initialized cls).before args s = true) (hstr : vk_R own is text sa s) (hat : ∀ w ∈ vx_atS own ic cls names, w.before args s = true)
    (hgood : ∀ w ∈ Cond.classLink own ik cls :: Cond.initialized cls :: vx_atS own ic cls names, vx_ot w = true)
    (hU : vx_Zq Bundle.tN "UNASSIGNED_STACK" Bundle.steD A s s.heap) (hN : vx_Zq Bundle.tN "SUPPRESSED_SENTINEL" Bundle.listD A s s.heap) (hS : va_S A s.heap H locs) (hsize : ls.size = c.maxLocals)
    (d0 : decode cc pc = .ok (.new ik, 3)) (d3 : decode cc (pc + 3) = .ok (.dup, 1)) (d4 : decode cc (pc + 4) = .ok (.ldc_w is, 3)) (d7 : decode cc (pc + 7) = .ok (.invokespecial ic, 3)) (d10 : decode cc (pc + 10) = .ok (.athrow, 1))
    (hout : ∀ x ∈ c.exceptionTable.toList, covers x (pc + 10) = false)
    (hRframes : names.length + 3 < R.frames) (hRlocals : (rest.map fun v => v.category).sum + (13 * (names.length + 1) + 43) ≤ R.locals) (hRcells : cells + 1 ≤ R.cells) (hRslots : slots + 6 ≤ R.slots) (hlocks : meth.locks = false)
    (hx : ∀ t : State, s.vm.Alike t.vm → H.size ≤ t.heap.size → (∀ q : Nat, q < H.size → t.heap[q]? = H[q]?) → XC cls s t)
    (hf : ∀ z ∈ locs, free z.base) (hc : cells + 1 ≤ mc) (hs : slots + 6 ≤ ms) :
    W p l e R s m args below meth c H locs cells slots (vx_MQ below Qc XC args s mc ms free) (F0 m pc ls rest) := by
  intro T hT X
  have htr : e.platform.stackTraces = false := (show e.platform.stackTraces = l.stackTraces by rw [X.admits.platform]).trans hl
  have Y := vx_rebase X (R' := { frames := R.frames, locals := R.locals, cells := 1, slots := 6 }) (Nat.le_refl _) (Nat.le_refl _) hRcells hRslots
  obtain ⟨s', hA⟩ : ∃ z, z = (T.setVm s.vm).setFrames (.invoking m args :: below) := ⟨_, rfl⟩
  rw [← hA] at Y
  have hvm : s'.vm = s.vm := by rw [hA]; rfl
  have hhp : s'.heap = H := by rw [hA]; exact hT
  have hW0 : s.WarmedH s'.vm := by rw [hvm]; exact State.WarmedH.refl s
  have hat' : ∀ w ∈ vx_atS own ic cls names, w.before args s' = true := fun w hw => vx_ot_at hW0 hvm.symm (hgood w (List.mem_cons_of_mem _ (List.mem_cons_of_mem _ hw))) (hat w hw)
  have hk' : (Cond.classLink own ik cls).before args s' = true := vx_ot_at hW0 hvm.symm (hgood _ List.mem_cons_self) hk
  have hini' : (Cond.initialized cls).before args s' = true := vx_ot_at hW0 hvm.symm (hgood _ (List.mem_cons_of_mem _ List.mem_cons_self)) hini
  have hU' : vx_Zq Bundle.tN "UNASSIGNED_STACK" Bundle.steD A s' s'.heap := by rw [hhp]; exact vx_Zq.moved hW0.alike (hU.kept hS.2.1)
  have hN' : vx_Zq Bundle.tN "SUPPRESSED_SENTINEL" Bundle.listD A s' s'.heap := by rw [hhp]; exact vx_Zq.moved hW0.alike (hN.kept hS.2.1)
  have h : ∀ w ∈ Bundle.ownAtoms own ic cls names, w.before args s' = true := vx_own hat' (vx_isRefq hU'.1) (vx_isRefq hN'.1) hU'.2.word hN'.2.word
  have hown' : s'.vm.findClass own = some m.cls := by rw [hvm]; exact hown
  have hins : (Cond.instantiable cls 6).before args s' = true := h _ (by simp [Bundle.ownAtoms])
  obtain ⟨vm₁, cX, kX, hfX, hkX, -, -, X₁, st1⟩ := Y.newCold hexec (own := own) (C := cls) (index := ik) (n := 6) hown' hk' hins hini'
    (g := F0 m pc ls rest) rfl (by rw [hb]; exact d0) (Nat.le_refl _) (Nat.le_refl _)
  generalize hT1 : (T.setVm vm₁).pushCell { cls := cX, slots := kX.instanceTypes.map defaultValue, vm := .none } = T1 at X₁ st1
  have hcat : (Value.ref T.heap.size).category = 1 := rfl
  have hcellA : T1.heap[T.heap.size]? = some (freshCell cX kX) := by rw [← hT1]; exact State.heap_pushCell_size _ _
  have d3' : decode c.code (pc + 3) = .ok (.dup, 1) := by rw [hb]; exact d3
  have d4' : decode c.code (pc + 4) = .ok (.ldc_w is, 3) := by rw [hb]; exact d4
  have hstr' : vk_R own is text sa s' := vk_R.warm hW0 hstr
  obtain ⟨U, hsteps, hrun, hend, hW, hsame, ce, hce, hO⟩ := X₁.ctorThrowS hexec htr (own := own) (cls := cls) (names := names) (ic := ic) hown' hcls hnames h (fun x hx => nomatch hx) hfX hkX hcellA (by rw [hhp, hT]; exact Nat.le_refl _) (msg := .ref sa) rfl
    (g := { method := m, pc := pc + 7, locals := ls, stack := .ref sa :: .ref T.heap.size :: .ref T.heap.size :: rest, locked := none }) rfl hsize rfl rfl (rest := rest) rfl
    (by rw [hb]; exact d7) (by rw [hb]; exact d10) hout hRframes (by simp only [List.map_cons, List.sum_cons, hcat]; omega) hlocks
  obtain ⟨f1, f2⟩ := vx_frame hsame
  rw [hhp] at f1 f2
  have hWs : s.WarmedH U.vm := State.WarmedH.trans hW0 hW
  have hcl : s.vm.findClass cls = some ce.cls := by
    have h9 := hO.cls
    rw [hvm] at h9
    exact h9
  have hall : s.sameButNew ({ U with vm := s.vm } : State) locs mc ms := by
    subst hA
    obtain ⟨e1, e2⟩ := hsame
    rw [State.setFrames_setFrames] at e1
    have h2 : (T.setVm s.vm).sameButNew ({ U with vm := s.vm } : State) [] (0 + 1) (0 + 6) := ⟨e1, e2⟩
    have h3 := X.same.trans h2
    rw [List.append_nil] at h3
    exact h3.mono hc hs
  refine ⟨U, ?_, .threw T.heap.size, hrun, hend, Or.inr ⟨T.heap.size, rfl, cls, ce, locs, hx U hWs.alike f1 (fun q hq => f2 q hq (fun z hz => nomatch hz)), hce, hO.vm, hcl, hWs, hall, hf⟩⟩
  refine st1 _ ?_
  show Steps p.tables e below (T1.setTop { method := m, pc := pc + 3, locals := ls, stack := .ref T.heap.size :: rest, locked := none }) _
  jvm_step X₁.here [X₁.here.top, hexec, d3', Value.category]
  exact X₁.ldcStringW hexec (own := own) (text := text) (index := is) (a := sa) hown' hstr'.1 hstr'.2
    (g := { method := m, pc := pc + 4, locals := ls, stack := .ref T.heap.size :: .ref T.heap.size :: rest, locked := none }) rfl d4' _ hsteps
end Ends
section Bodies
variable {l : Launch}
theorem vx_ofW {y : MethodName} {ws ws' : List Cond} {rm : Room} {Pc : Array Value → State → Prop} {Qc : Array Value → State → Outcome → State → Prop} {XC : String → State → State → Prop} {mc ms : Nat} {free : Addr → Prop} {cc : ByteArray} {maxL : Nat} {ret : Option FieldType}
    (hy : plainName y.cls = true) (hw : ws = Cond.code y cc maxL ret :: ws')
    (body : ∀ p e s m args below meth c s₁, BodyLoose p l y (headSpec ws rm) cc maxL ret e s m args below meth c s₁ → c.maxLocals = maxL → (∀ x ∈ c.exceptionTable.toList, False) → Pc args s →
      W p l e (headSpec ws rm).room s m args below meth c s.heap [] 0 0 (vx_MQ below Qc XC args s mc ms free) (entryFrame m args maxL)) : vx_Met l y ws rm Pc Qc XC mc ms free := by
  refine MetFree.of_bodyS (code := cc) (maxLocals := maxL) (ret := ret) hy ?_ ?_
  · intro args s m h hn
    obtain ⟨meth, c, h1, h2, h3, h4, h5, h6, -, -⟩ := Cond.code_spec hn (atoms_spec (ws := ws) h _ (by rw [hw]; exact List.mem_cons_self))
    exact ⟨meth, c, h1, h2, h3, h4, h5, h6⟩
  · intro p e s m args below meth c s₁ B hml hP _
    have hh0 : s₁.heap = s.heap := by rw [B.state]; rfl
    have ht : ∀ x ∈ c.exceptionTable.toList, False := by
      obtain ⟨meth9, c9, h1, h2, -, -, -, -, h7, -⟩ := Cond.code_spec B.named (atoms_spec (ws := ws) B.pre _ (by rw [hw]; exact List.mem_cons_self))
      cases Option.some.inj (h1.symm.trans B.method)
      cases Option.some.inj (h2.symm.trans (Stand.of_body B).code)
      intro x hx
      rw [Array.isEmpty_iff.mp h7] at hx
      cases hx
    obtain ⟨t, a1, o, b1, b2, b3⟩ := body p e s m args below meth c s₁ B hml ht hP s₁ hh0 (Stand.of_body B)
    exact ⟨t, o, a1, b1, b2, b3⟩
/-- the table of a body with handlers -/
theorem vx_table {p : Program} {x y : MethodName} {S : Spec} {cc bytes : ByteArray} {maxL maxL' : Nat} {ret ret' : Option FieldType} {e : Env} {s s₁ : State} {m : MethodId} {args : Array Value} {below : List Frame} {meth : Method} {c : Code} {hh : List (Nat × Nat × Nat × Nat)}
    (B : BodyLoose p l y S cc maxL ret e s m args below meth c s₁) (h : (Cond.codeWith y bytes maxL' ret' hh).before args s = true) : c.exceptionTable.toList = tableOf hh := by
  obtain ⟨m9, meth9, c9, hn9, h1, h2, -, -, h6, -⟩ := Cond.codeWith_spec h
  cases Option.some.inj (hn9.symm.trans B.named)
  cases Option.some.inj (h1.symm.trans B.method)
  cases Option.some.inj (h2.symm.trans (Stand.of_body B).code)
  rw [← h6, table_eq]
end Bodies
end VXA
/-! ===== END ===== -/
/-! ===== BEGIN a static call of a method with an exception table ===== -/
section VXS
variable {p : Program} {l : Launch} {e : Env} {R : Room} {s : State} {m : MethodId} {args : Array Value} {below : List Frame} {meth : Method} {c : Code} {T : State} {H : Heap} {locs : List Loc} {cells slots : Nat}
abbrev vx_CSW (R : Room) (s : State) (args : Array Value) (own : String) (index : Nat) (y : MethodName) (bytes : ByteArray) (maxL : Nat) (ret : Option FieldType) (hh : List (Nat × Nat × Nat × Nat)) (ws : List Cond) (rm : Room) (mc ms n : Nat) : Prop :=
  (rm.cells = mc ∧ rm.slots = ms ∧ rm.frames + 1 ≤ R.frames ∧ 8 + (maxL + 11) + rm.locals ≤ R.locals ∧ (∀ w ∈ ws, ∀ (a' : Array Value) (U : State), s.WarmedH U.vm → w.before a' U = true) ∧ Cond.codeWith y bytes maxL ret hh ∈ ws) ∧
  (Cond.codeWith y bytes maxL ret hh).before args s = true ∧ (Cond.initialized y.cls).before args s = true ∧ (y.cls ≠ "java/lang/invoke/MethodHandle" ∧ y.cls ≠ "java/lang/invoke/VarHandle") ∧
  (∀ sig, parseMethodDescriptor y.desc = some sig → n = sig.parameters.length) ∧ (Cond.methodLink own index y).before args s = true ∧ (Cond.static y).before args s = true
theorem vx_cwSW {own : String} {index maxL mc ms : Nat} {y : MethodName} {bytes : ByteArray} {ret : Option FieldType} {hh : List (Nat × Nat × Nat × Nat)} {Ts ws ws' : List Cond} {rm : Room} (n : Nat) (ht : ∀ w ∈ Ts, w.before args s = true) (hT : GoodIn Ts (va_wsS own index y ws)) (hw : ws = Cond.codeWith y bytes maxL ret hh :: ws') (hrc : rm.cells = mc) (hrs : rm.slots = ms)
    (hd : y.cls ≠ "java/lang/invoke/MethodHandle" ∧ y.cls ≠ "java/lang/invoke/VarHandle" ∧ (parseMethodDescriptor y.desc).map (fun d => d.parameters.length) = some n) (hR : rm.frames + 1 ≤ R.frames ∧ 8 + (maxL + 11) + rm.locals ≤ R.locals) :
    vx_CSW R s args own index y bytes maxL ret hh ws rm mc ms n := by
  have ok : ∀ w ∈ va_wsS own index y ws, w.before args s = true := fun w h => ht w (hT w h).1
  have hG : GoodIn Ts ws := fun w h => hT w (by unfold va_wsS; exact List.mem_append_right _ h)
  have hc : Cond.codeWith y bytes maxL ret hh ∈ ws := by rw [hw]; exact List.mem_cons_self
  refine ⟨⟨hrc, hrs, hR.1, hR.2, pay_in ht hG, hc⟩, ht _ (hG _ hc).1, ok _ (by simp [va_wsS]), ⟨hd.1, hd.2.1⟩, fun sig h => ?_, ok _ (by simp [va_wsS]), ok _ (by simp [va_wsS])⟩
  have h2 := hd.2.2
  rw [h] at h2
  exact (Option.some.inj h2).symm
theorem vx_callSW (X : Stand p l e R s m args below meth c T locs cells slots) (hexec : p.tables.exec = Jvm.exec) {own : String} {index : Nat} {y : MethodName} {bytes : ByteArray} {maxL : Nat} {ret : Option FieldType} {hh : List (Nat × Nat × Nat × Nat)}
    (hown : s.vm.findClass own = some m.cls) (hlink : (Cond.methodLink own index y).before args s = true) (hstat : (Cond.static y).before args s = true) (hinit : (Cond.initialized y.cls).before args s = true)
    (hcode : (Cond.codeWith y bytes maxL ret hh).before args s = true) (hy : y.cls ≠ "java/lang/invoke/MethodHandle" ∧ y.cls ≠ "java/lang/invoke/VarHandle")
    {W9 : Nat} {Pre : Pt → Array Value → Prop} {Post : Pt → Array Value → Option Value → Pt → Prop} (hK : Back l R p e below s args y 3 W9 Pre Post)
    {g : JFrame} (hg : g.method = m) (hsize : g.locals.size = c.maxLocals) {argsL rest : List Value} (hlen : ∀ sig, parseMethodDescriptor y.desc = some sig → argsL.length = sig.parameters.length)
    (hstack : g.stack = argsL.reverse ++ rest) (hW : 2 * g.monitorRoom + (rest.map fun v => v.category).sum ≤ W9) (hdg : decode c.code g.pc = .ok (.invokestatic index, 3))
    (hpre : ∀ vm₁, s.WarmedH vm₁ → Pre ⟨T.setVm vm₁, locs, cells, slots⟩ argsL.toArray) :
    ∃ (v : Option Value) (vm₁ : Vm) (B : Pt), s.WarmedH vm₁ ∧ Stand p l e R s m args below meth c B.U B.locs B.cells B.slots ∧ Post ⟨T.setVm vm₁, locs, cells, slots⟩ argsL.toArray v B ∧
      ∀ target, Steps p.tables e below (B.U.setTop { g with pc := g.pc + 3, stack := v.toList ++ rest }) target → Steps p.tables e below (T.setTop g) target := by
  obtain ⟨mk, methM, cM, hnamed, hmethM, -, -, -, -, -, -, hsigM⟩ := Cond.codeWith_spec hcode
  have hstatic : methM.isStatic = true := Cond.static_spec hnamed hmethM hstat
  obtain ⟨kP, hkP, -⟩ := className_of_methodNamed hnamed
  have hinitP : kP.init = .initialized := Cond.initialized_spec (findClass_of_methodNamed hnamed) hkP hinit
  obtain ⟨vm₁, X₁, hstep₁⟩ := X.invokestatic hexec hown hlink hnamed hmethM hstatic hkP hinitP hy (g := g) hg (argsL := argsL) (rest := rest) (hlen _ hsigM) hstack hdg
  obtain ⟨v, B, X', hpost, hsteps⟩ := hK m meth c ⟨T.setVm vm₁, locs, cells, slots⟩ { g with stack := rest } (.invokestatic index) mk argsL.toArray X₁ hg hsize hdg hW (X₁.named hnamed) (hpre vm₁ X₁.warmed)
  exact ⟨v, vm₁, B, X₁.warmed, X', hpost, fun target h => hstep₁ _ fun acts => by rw [doInvoke_state]; exact hsteps.trans h⟩
theorem vx_runSW {y : MethodName} {bytes cc : ByteArray} {maxL nL mc ms n index : Nat} {ret : Option FieldType} {hh : List (Nat × Nat × Nat × Nat)} {ws : List Cond} {rm : Room} {Pc : Array Value → State → Prop} {Qc : Array Value → State → Outcome → State → Prop} {free : Addr → Prop} {Ts : List Cond} {own : String} {As rest : List Value} {g : JFrame}
    (S : CallFix p m c cc nL s args Ts own) (hM : Met l y ws rm Pc Qc mc ms free) (cw : vx_CSW R s args own index y bytes maxL ret hh ws rm mc ms n) (hp : PreS s H Pc As)
    (hg : g.method = m) (hn : As.length = n) (hsize : g.locals.size = nL) (hstack : g.stack = As.reverse ++ rest) (hW : 2 * g.monitorRoom + (rest.map fun v => v.category).sum ≤ 8) (hdg : decode cc g.pc = .ok (.invokestatic index, 3)) (hf : cells + mc ≤ R.cells ∧ slots + ms ≤ R.slots) :
    va_Run p l e R s m args below meth c H locs cells slots mc ms g rest (Qc As.toArray) (free) := by
  obtain ⟨⟨hrc, hrs, hfr, hlo, hws, hcw⟩, hcode, hini, hy, hlen, hl, hstt⟩ := cw
  have hK : Back l R p e below s args y 3 8 (PreOf R mc ms Pc) (PostOf Qc mc ms free) := va_backW (hh := hh) (bytes := bytes) (maxL := maxL) (ret := ret) hM hp.1 hrc hrs hfr hlo hws hcw (fun a' U hW => word_at hW (Or.inl (by first | rfl | simp [Cond.onTables, Cond.keeps, Cond.steady])) hini)
  obtain ⟨hx, hb, hml, ho, -⟩ := S
  intro T hT X
  obtain ⟨v, vm₁, ⟨U', l2, c2, s2⟩, hW₁, X', ⟨g', mk, t, L, e1, e2, hq, h1, hL, h2, h3⟩, st⟩ := vx_callSW X hx (hh := hh) (bytes := bytes) (maxL := maxL) (ret := ret) ho hl hstt hini hcode hy hK hg (hsize.trans hml.symm) (argsL := As) (rest := rest) (fun sig h => hn.trans (hlen sig h)) hstack hW (by rw [hb]; exact hdg)
    (fun vm₁ hW₁ => ⟨hf.1, hf.2, hp.2 (T.setVm vm₁) hT hW₁⟩)
  dsimp only [Pt.U, Pt.locs, Pt.cells, Pt.slots] at X' e1 e2 h1 h2 h3 st
  subst h1; subst h2; subst h3
  exact ⟨v, (T.setVm vm₁).calling g' mk As.toArray, t, U', L, hT, X', hL, e1, e2, hq, st⟩
/-- not caught here, past rows that name other classes: it goes on to the caller -/
theorem vx_outP {p : Program} {l : Launch} {e : Env} {R : Room} {s : State} {m : MethodId} {args : Array Value} {below : List Frame} {meth : Method} {c : Code} {H : Heap} {locs : List Loc} {cells slots : Nat} {free : Addr → Prop} {ls : Array Slot} {rest : List Value} {Qc : Array Value → State → Outcome → State → Prop} {XC : String → State → State → Prop}
    {pc : Nat} {own E : String} {ce : Cell} {q : Addr} {mc ms : Nat} (hown : s.vm.findClass own = some m.cls) (hlocks : meth.locks = false)
    (hpass : ∀ z ∈ c.exceptionTable.toList, covers z pc = false ∨ (z.catchType ≠ 0 ∧ ∃ nm : String, (Cond.classLink own z.catchType nm).before args s = true ∧ va_Nc E nm s)) (hcell : H[q]? = some ce) (hv : ce.vm = .none) (hcl : s.vm.findClass E = some ce.cls)
    (hx : ∀ t : State, t.heap = H → s.vm.Alike t.vm → XC E s t) (hf : ∀ z ∈ locs, free z.base) (hc : cells ≤ mc) (hs : slots ≤ ms) :
    vx_W p l e R s m args below meth c H locs cells slots (vx_MQ below Qc XC args s mc ms free) (F0 m pc ls rest) q := by
  intro T hT X
  have hpl : e.platform.magicAccessors = ({} : Platform).magicAccessors := by rw [X.admits.platform]
  obtain ⟨vm', hW', X', st⟩ := X.outThrough hlocks q (g := F0 m pc ls rest) rfl rfl rfl (cell := ce) (by rw [hT]; exact hcell) (by rw [hv]; rfl)
    (by obtain ⟨k9, h9, -⟩ := Vm.findClass_spec hcl; exact ⟨k9, h9⟩) (fun z hz => by
      rcases hpass z hz with h | ⟨hz0, nm, hl1, hn1⟩
      · exact Or.inl h
      · obtain ⟨c6, hc6, hcl6⟩ := Cond.classLink_spec hown hl1 e.platform hpl
        obtain ⟨a8, b8, h1, h2, h3⟩ := hn1
        cases Option.some.inj (h1.symm.trans hcl)
        cases Option.some.inj (h2.symm.trans hc6)
        exact Or.inr ⟨hz0, _, hcl6, h3⟩)
  obtain ⟨g₀, hfr⟩ := X'.frames_eq
  have hcell9 : ((T.setVm vm').setFrames (.throwing q :: below)).heap[q]? = some ce := by
    show T.heap[q]? = some ce
    rw [hT]; exact hcell
  have hend : Ended ((T.setVm vm').setFrames (.throwing q :: below)) below (.threw q) := State.frames_setFrames _ (State.cur_lt_of_frames hfr)
  refine ⟨(T.setVm vm').setFrames (.throwing q :: below), ?_, .threw q, X'.here.running, hend, Or.inr ⟨q, rfl, E, ce, locs, hx _ hT (X'.ends _).1.alike, hcell9, hv, hcl, (X'.ends _).1, (X'.ends _).2.mono hc hs, hf⟩⟩
  rw [X.pushThrowing_eq]
  exact st
/-- a thing of a world lies in the heap -/
theorem vx_lt {D : va_G} {cl : List vw_C} {ws : va_W} {H1 : Heap} (h : va_P D cl ws H1) {k : Nat} {q : Nat × va_E} (hk : ws[k]? = some q) : q.1 < H1.size := (h k q hk).lt
end VXS
/-! ===== END ===== -/
/-! ===== BEGIN methods with a table of their own: called by a name, returning or throwing ===== -/
section VXH
/-! vx_backW, vx_callVX, vx_callSX, vx_callVW, vx_runVW, vx_runVX, vx_runSX, vx_ofWH follow the same proofs as their sisters above (Free/Laws.lean, Shelf42/LK1.lean); vx_outP calls Shelf42/NT130.lean (outThrough). -/
section
variable {l : Launch} {R : Room} {p : Program} {e : Env} {below : List Frame} {s : State} {sargs : Array Value} {y : MethodName} {len W9 : Nat}
theorem vx_backW {ws : List Cond} {rm : Room} {Pc : Array Value → State → Prop} {Qc : Array Value → State → Outcome → State → Prop} {XC : String → State → State → Prop} {mc ms : Nat} {free : Addr → Prop} {bytes : ByteArray} {maxL : Nat} {ret : Option FieldType} {hh : List (Nat × Nat × Nat × Nat)}
    (hM : vx_Met l y ws rm Pc Qc XC mc ms free) (hblind : FrameBlind Pc) (hrc : rm.cells = mc) (hrs : rm.slots = ms)
    (hframes : rm.frames + 1 ≤ R.frames) (hlocals : W9 + (maxL + 11) + rm.locals ≤ R.locals)
    (hws : ∀ w ∈ ws, ∀ a' U, s.WarmedH U.vm → w.before a' U = true) (hcode : Cond.codeWith y bytes maxL ret hh ∈ ws) (hinit : ∀ a' U, s.WarmedH U.vm → (Cond.initialized y.cls).before a' U = true) :
    vx_Back l R p e below s sargs y len W9 (PreOf R mc ms Pc) (PostOf Qc mc ms free) (vx_Post XC mc ms free) := by
  intro m meth c A g ig mk a X hg hsize hdg hW hn hp
  have h1 : (headSpec ws rm).pre.before a A.U = true := atoms_intro fun w hw => hws w hw _ _ X.warmed
  have h2 : (Cond.codeWith y bytes maxL ret hh).before a A.U = true := hws _ hcode _ _ X.warmed
  have h3 : (Cond.initialized y.cls).before a A.U = true := hinit _ _ X.warmed
  have h4 : A.cells + (headSpec ws rm).room.cells ≤ R.cells := by rw [show (headSpec ws rm).room.cells = mc from hrc]; exact hp.1
  have h5 : A.slots + (headSpec ws rm).room.slots ≤ R.slots := by rw [show (headSpec ws rm).room.slots = ms from hrs]; exact hp.2.1
  have hPc : Pc a (A.U.calling g mk a) := hblind _ _ _ _ hp.2.2
  obtain ⟨U, Ls, c0, s0⟩ := A
  dsimp only [Pt.U, Pt.locs, Pt.cells, Pt.slots] at h1 h2 h3 h4 h5 X hn hPc ⊢
  obtain ⟨m9, methY, cY, hn9, hmY, hcY, -, hlY, -⟩ := Cond.codeWith_spec h2
  cases Option.some.inj (hn9.symm.trans hn)
  obtain ⟨kY, hkY, -⟩ := className_of_methodNamed hn
  have hinitY : kY.init = .initialized := Cond.initialized_spec (findClass_of_methodNamed hn) hkY h3
  have h : At U g.method c below := by rw [hg]; exact X.here
  have hlocals9 : W9 + (maxL + 11) + (headSpec ws rm).room.locals ≤ R.locals := hlocals
  have happ : (headSpec ws rm).appliesLoose y e.platform (U.calling g mk a) = true :=
    Spec.appliesLoose_calling (g := g) h hdg hn hkY hinitY
      (X.room_calling (g := g) (R' := (headSpec ws rm).room) hsize hmY hcY hframes (by rw [hlY]; omega) h4 h5) h1
  obtain ⟨mid, hmid⟩ := h.above
  have hfr : (U.setTop g).frames = (.java g :: mid) ++ below := by rw [State.frames_setTop' g h.top, hmid]; rfl
  obtain ⟨o, s₂, hsteps, -, hend, hq⟩ := Steps.callFree hM p X.admits X.cas X.clock (acts := []) hfr happ hPc trivial
  have hq' : vx_Q Qc XC mc ms free a (U.calling g mk a) o s₂ := hq
  rw [State.frames_setTop' g h.top] at hend
  obtain ⟨g₀, hg0⟩ := Option.isSome_iff_exists.mp h.top
  obtain ⟨r, hr⟩ := State.topJava?_eq_some.mp hg0
  have hr' : (({ U with heap := s₂.heap, slotsUsed := s₂.slotsUsed } : State).setVm s₂.vm).frames = .java g₀ :: r := hr
  rcases hq' with ⟨hqc, L, hfe, hL⟩ | ⟨q, rfl, E, ce, L, hx, hce, hcv, hcl, hW₂, hsm, hL⟩
  · obtain ⟨⟨v, rfl⟩, hW₂, e2, q2, q3, q4, q5, q6⟩ := id hfe
    have e3 : s₂ = ({ (U.calling g mk a).setFrames s₂.frames with heap := s₂.heap, slotsUsed := s₂.slotsUsed } : State).setVm s₂.vm := by
      have : s₂ = ({ s₂ with vm := (U.calling g mk a).vm } : State).setVm s₂.vm := rfl
      rw [e2] at this
      exact this
    obtain ⟨c₂, i₂, len₂, hc₂, hd₂, hf₂⟩ := hend
    have hW' : U.WarmedH s₂.vm := hW₂
    have hcc : c₂ = c := by
      have h1 : s₂.code? g.method = U.code? g.method := by
        rw [State.code?_eq, State.code?_eq, hW'.alike.method?]
      exact Option.some.inj (hc₂.symm.trans (h1.trans h.code))
    subst hcc
    have hlen : len₂ = len := by rw [hdg] at hd₂; cases hd₂; rfl
    subst hlen
    have hs₂ : s₂ = (({ U with heap := s₂.heap, slotsUsed := s₂.slotsUsed } : State).setVm s₂.vm).setTop { g with pc := g.pc + len₂, stack := v.toList ++ g.stack } := by
      refine e3.trans ?_
      rw [hf₂, State.calling_eq h.top, State.setFrames_setFrames, State.setTop_of_frames _ hr', hr]
      rfl
    have hsame : U.sameButNew ({ U with heap := s₂.heap, slotsUsed := s₂.slotsUsed } : State) L mc ms := by
      refine ⟨?_, q2, q3, q4, q5, q6⟩
      obtain ⟨t, ht, -⟩ := State.frames_cons hr
      show ({ U with heap := s₂.heap, slotsUsed := s₂.slotsUsed } : State) = { U.setFrames U.frames with heap := s₂.heap, slotsUsed := s₂.slotsUsed }
      rw [State.setFrames_self ht]
    subst hg
    refine Or.inl ⟨v, ⟨(({ U with heap := s₂.heap, slotsUsed := s₂.slotsUsed } : State).setVm s₂.vm), Ls ++ L, c0 + mc, s0 + ms⟩,
      ⟨X.admits, X.cas, X.clock, X.frames, X.room, X.hears, X.method, X.code, (X.here.setHeapUsed s₂.heap s₂.slotsUsed).setVm hW'.alike, X.tail, State.WarmedH.trans X.warmed hW', X.limits, X.bytes, X.same.trans (hsame.setVm s.vm)⟩,
      ⟨g, mk, s₂, L, rfl, rfl, hqc, rfl, hL, rfl, rfl⟩, ?_⟩
    show Steps p.tables e below _ ((({ U with heap := s₂.heap, slotsUsed := s₂.slotsUsed } : State).setVm s₂.vm).setTop { g with pc := g.pc + len₂, stack := v.toList ++ g.stack })
    rw [← hs₂]
    exact hsteps
  · obtain ⟨e2, q2, q3, q4, q5, q6⟩ := id hsm
    have e3 : s₂ = ({ (U.calling g mk a).setFrames s₂.frames with heap := s₂.heap, slotsUsed := s₂.slotsUsed } : State).setVm s₂.vm := by
      have : s₂ = ({ s₂ with vm := (U.calling g mk a).vm } : State).setVm s₂.vm := rfl
      rw [e2] at this
      exact this
    have hf₂ : s₂.frames = .throwing q :: .java g :: U.frames.tail := hend
    have hW' : U.WarmedH s₂.vm := hW₂
    have hs₂ : s₂ = ((({ U with heap := s₂.heap, slotsUsed := s₂.slotsUsed } : State).setVm s₂.vm).setTop g).pushFrame (.throwing q) := by
      refine e3.trans ?_
      rw [hf₂, State.calling_eq h.top, State.setFrames_setFrames, State.pushFrame, State.frames_setTop _ hr', State.setTop_of_frames _ hr', State.setFrames_setFrames, hr]
      rfl
    have hsame : U.sameButNew ({ U with heap := s₂.heap, slotsUsed := s₂.slotsUsed } : State) L mc ms := by
      refine ⟨?_, q2, q3, q4, q5, q6⟩
      obtain ⟨t, ht, -⟩ := State.frames_cons hr
      show ({ U with heap := s₂.heap, slotsUsed := s₂.slotsUsed } : State) = { U.setFrames U.frames with heap := s₂.heap, slotsUsed := s₂.slotsUsed }
      rw [State.setFrames_self ht]
    subst hg
    refine Or.inr ⟨q, ⟨(({ U with heap := s₂.heap, slotsUsed := s₂.slotsUsed } : State).setVm s₂.vm), Ls ++ L, c0 + mc, s0 + ms⟩,
      ⟨X.admits, X.cas, X.clock, X.frames, X.room, X.hears, X.method, X.code, (X.here.setHeapUsed s₂.heap s₂.slotsUsed).setVm hW'.alike, X.tail, State.WarmedH.trans X.warmed hW', X.limits, X.bytes, X.same.trans (hsame.setVm s.vm)⟩,
      ⟨g, mk, s₂, L, E, ce, rfl, rfl, hx, hce, hcv, hcl, rfl, hL, rfl, rfl⟩, ?_⟩
    show Steps p.tables e below _ (((({ U with heap := s₂.heap, slotsUsed := s₂.slotsUsed } : State).setVm s₂.vm).setTop g).pushFrame (.throwing q))
    rw [← hs₂]
    exact hsteps
end
variable {p : Program} {l : Launch} {e : Env} {R : Room} {s : State} {m : MethodId} {args : Array Value} {below : List Frame} {meth : Method} {c : Code} {T : State} {H : Heap} {locs : List Loc} {cells slots : Nat}
theorem vx_callVX (X : Stand p l e R s m args below meth c T locs cells slots) (hexec : p.tables.exec = Jvm.exec) {own C : String} {index : Nat} {y : MethodName} {bytes : ByteArray} {maxL : Nat} {ret : Option FieldType} {hh : List (Nat × Nat × Nat × Nat)}
    (hown : s.vm.findClass own = some m.cls) (hlink : (Cond.methodLink own index y).before args s = true) (hinst : (Cond.instanceMethod y).before args s = true) (hsel : (Cond.selects C y y).before args s = true)
    (hcode : (Cond.codeWith y bytes maxL ret hh).before args s = true) (hy : y.cls ≠ "java/lang/invoke/MethodHandle" ∧ y.cls ≠ "java/lang/invoke/VarHandle")
    {W9 : Nat} {Pre : Pt → Array Value → Prop} {Post : Pt → Array Value → Option Value → Pt → Prop} {PostX : Pt → Array Value → Addr → Pt → Prop} (hK : vx_Back l R p e below s args y 3 W9 Pre Post PostX)
    {b : Addr} {cellB : Cell} (hcell : T.heap[b]? = some cellB) (hobj : cellB.vm.isStatics = false) (hcls : s.vm.findClass C = some cellB.cls)
    {g : JFrame} (hg : g.method = m) (hsize : g.locals.size = c.maxLocals) {argsL rest : List Value} (hlen : ∀ sig, parseMethodDescriptor y.desc = some sig → argsL.length = sig.parameters.length)
    (hstack : g.stack = argsL.reverse ++ .ref b :: rest) (hW : 2 * g.monitorRoom + (rest.map fun v => v.category).sum ≤ W9) (hdg : decode c.code g.pc = .ok (.invokevirtual index, 3))
    (hpre : ∀ vm₁, s.WarmedH vm₁ → Pre ⟨T.setVm vm₁, locs, cells, slots⟩ (Value.ref b :: argsL).toArray) :
    (∃ (v : Option Value) (vm₁ : Vm) (B : Pt), s.WarmedH vm₁ ∧ Stand p l e R s m args below meth c B.U B.locs B.cells B.slots ∧ Post ⟨T.setVm vm₁, locs, cells, slots⟩ (Value.ref b :: argsL).toArray v B ∧
      ∀ target, Steps p.tables e below (B.U.setTop { g with pc := g.pc + 3, stack := v.toList ++ rest }) target → Steps p.tables e below (T.setTop g) target) ∨
    (∃ (q : Addr) (vm₁ : Vm) (B : Pt), s.WarmedH vm₁ ∧ Stand p l e R s m args below meth c B.U B.locs B.cells B.slots ∧ PostX ⟨T.setVm vm₁, locs, cells, slots⟩ (Value.ref b :: argsL).toArray q B ∧
      Steps p.tables e below (T.setTop g) ((B.U.setTop { g with stack := rest }).pushFrame (.throwing q))) := by
  obtain ⟨mk, methM, hnamed, hmethM, hstM, habM⟩ := Cond.instanceMethod_spec hinst
  obtain ⟨m8, methM', cM, hn8, hmethM', -, -, -, -, -, -, hsigM⟩ := Cond.codeWith_spec hcode
  cases Option.some.inj (hn8.symm.trans hnamed)
  cases hmethM.symm.trans hmethM'
  obtain ⟨c2, r2, m2, q1, q2, q3, q4, kP, hkP, hkPi⟩ := Cond.selects_spec hsel
  cases hcls.symm.trans q1
  cases (State.methodFound?_of_named hnamed hy).symm.trans q2
  cases hnamed.symm.trans q3
  have hselP : selectMethod e.platform s.vm cellB.cls mk = .method mk := by rw [Launch.admits_selectMethod X.admits]; exact q4
  obtain ⟨vm₁, X₁, hstep₁⟩ := X.invokevirtual hexec hown hlink hnamed hmethM hstM hkP hkPi hy (a := b) (cell := cellB) hcell
    (fun z h => by rw [h] at hobj; cases hobj) hselP hmethM habM hkP hkPi (g := g) hg (argsL := argsL) (rest := rest) (hlen _ hsigM) hstack hdg
  rcases hK m meth c ⟨T.setVm vm₁, locs, cells, slots⟩ { g with stack := rest } (.invokevirtual index) mk (Value.ref b :: argsL).toArray X₁ hg hsize hdg hW (X₁.named hnamed) (hpre vm₁ X₁.warmed) with ⟨v, B, X', hpost, hsteps⟩ | ⟨q, B, X', hpost, hsteps⟩
  · exact Or.inl ⟨v, vm₁, B, X₁.warmed, X', hpost, fun target h => hstep₁ _ fun acts => by rw [doInvoke_state]; exact hsteps.trans h⟩
  · exact Or.inr ⟨q, vm₁, B, X₁.warmed, X', hpost, hstep₁ _ fun acts => by rw [doInvoke_state]; exact hsteps⟩
theorem vx_callSX (X : Stand p l e R s m args below meth c T locs cells slots) (hexec : p.tables.exec = Jvm.exec) {own : String} {index : Nat} {y : MethodName} {bytes : ByteArray} {maxL : Nat} {ret : Option FieldType} {hh : List (Nat × Nat × Nat × Nat)}
    (hown : s.vm.findClass own = some m.cls) (hlink : (Cond.methodLink own index y).before args s = true) (hstat : (Cond.static y).before args s = true) (hinit : (Cond.initialized y.cls).before args s = true)
    (hcode : (Cond.codeWith y bytes maxL ret hh).before args s = true) (hy : y.cls ≠ "java/lang/invoke/MethodHandle" ∧ y.cls ≠ "java/lang/invoke/VarHandle")
    {W9 : Nat} {Pre : Pt → Array Value → Prop} {Post : Pt → Array Value → Option Value → Pt → Prop} {PostX : Pt → Array Value → Addr → Pt → Prop} (hK : vx_Back l R p e below s args y 3 W9 Pre Post PostX)
    {g : JFrame} (hg : g.method = m) (hsize : g.locals.size = c.maxLocals) {argsL rest : List Value} (hlen : ∀ sig, parseMethodDescriptor y.desc = some sig → argsL.length = sig.parameters.length)
    (hstack : g.stack = argsL.reverse ++ rest) (hW : 2 * g.monitorRoom + (rest.map fun v => v.category).sum ≤ W9) (hdg : decode c.code g.pc = .ok (.invokestatic index, 3))
    (hpre : ∀ vm₁, s.WarmedH vm₁ → Pre ⟨T.setVm vm₁, locs, cells, slots⟩ argsL.toArray) :
    (∃ (v : Option Value) (vm₁ : Vm) (B : Pt), s.WarmedH vm₁ ∧ Stand p l e R s m args below meth c B.U B.locs B.cells B.slots ∧ Post ⟨T.setVm vm₁, locs, cells, slots⟩ argsL.toArray v B ∧
      ∀ target, Steps p.tables e below (B.U.setTop { g with pc := g.pc + 3, stack := v.toList ++ rest }) target → Steps p.tables e below (T.setTop g) target) ∨
    (∃ (q : Addr) (vm₁ : Vm) (B : Pt), s.WarmedH vm₁ ∧ Stand p l e R s m args below meth c B.U B.locs B.cells B.slots ∧ PostX ⟨T.setVm vm₁, locs, cells, slots⟩ argsL.toArray q B ∧
      Steps p.tables e below (T.setTop g) ((B.U.setTop { g with stack := rest }).pushFrame (.throwing q))) := by
  obtain ⟨mk, methM, cM, hnamed, hmethM, -, -, -, -, -, -, hsigM⟩ := Cond.codeWith_spec hcode
  have hstatic : methM.isStatic = true := Cond.static_spec hnamed hmethM hstat
  obtain ⟨kP, hkP, -⟩ := className_of_methodNamed hnamed
  have hinitP : kP.init = .initialized := Cond.initialized_spec (findClass_of_methodNamed hnamed) hkP hinit
  obtain ⟨vm₁, X₁, hstep₁⟩ := X.invokestatic hexec hown hlink hnamed hmethM hstatic hkP hinitP hy (g := g) hg (argsL := argsL) (rest := rest) (hlen _ hsigM) hstack hdg
  rcases hK m meth c ⟨T.setVm vm₁, locs, cells, slots⟩ { g with stack := rest } (.invokestatic index) mk argsL.toArray X₁ hg hsize hdg hW (X₁.named hnamed) (hpre vm₁ X₁.warmed) with ⟨v, B, X', hpost, hsteps⟩ | ⟨q, B, X', hpost, hsteps⟩
  · exact Or.inl ⟨v, vm₁, B, X₁.warmed, X', hpost, fun target h => hstep₁ _ fun acts => by rw [doInvoke_state]; exact hsteps.trans h⟩
  · exact Or.inr ⟨q, vm₁, B, X₁.warmed, X', hpost, hstep₁ _ fun acts => by rw [doInvoke_state]; exact hsteps⟩
theorem vx_callVW (X : Stand p l e R s m args below meth c T locs cells slots) (hexec : p.tables.exec = Jvm.exec) {own C : String} {index : Nat} {y : MethodName} {bytes : ByteArray} {maxL : Nat} {ret : Option FieldType} {hh : List (Nat × Nat × Nat × Nat)}
    (hown : s.vm.findClass own = some m.cls) (hlink : (Cond.methodLink own index y).before args s = true) (hinst : (Cond.instanceMethod y).before args s = true) (hsel : (Cond.selects C y y).before args s = true)
    (hcode : (Cond.codeWith y bytes maxL ret hh).before args s = true) (hy : y.cls ≠ "java/lang/invoke/MethodHandle" ∧ y.cls ≠ "java/lang/invoke/VarHandle")
    {W9 : Nat} {Pre : Pt → Array Value → Prop} {Post : Pt → Array Value → Option Value → Pt → Prop} (hK : Back l R p e below s args y 3 W9 Pre Post)
    {b : Addr} {cellB : Cell} (hcell : T.heap[b]? = some cellB) (hobj : cellB.vm.isStatics = false) (hcls : s.vm.findClass C = some cellB.cls)
    {g : JFrame} (hg : g.method = m) (hsize : g.locals.size = c.maxLocals) {argsL rest : List Value} (hlen : ∀ sig, parseMethodDescriptor y.desc = some sig → argsL.length = sig.parameters.length)
    (hstack : g.stack = argsL.reverse ++ .ref b :: rest) (hW : 2 * g.monitorRoom + (rest.map fun v => v.category).sum ≤ W9) (hdg : decode c.code g.pc = .ok (.invokevirtual index, 3))
    (hpre : ∀ vm₁, s.WarmedH vm₁ → Pre ⟨T.setVm vm₁, locs, cells, slots⟩ (Value.ref b :: argsL).toArray) :
    ∃ (v : Option Value) (vm₁ : Vm) (B : Pt), s.WarmedH vm₁ ∧ Stand p l e R s m args below meth c B.U B.locs B.cells B.slots ∧ Post ⟨T.setVm vm₁, locs, cells, slots⟩ (Value.ref b :: argsL).toArray v B ∧
      ∀ target, Steps p.tables e below (B.U.setTop { g with pc := g.pc + 3, stack := v.toList ++ rest }) target → Steps p.tables e below (T.setTop g) target := by
  obtain ⟨mk, methM, hnamed, hmethM, hstM, habM⟩ := Cond.instanceMethod_spec hinst
  obtain ⟨m8, methM', cM, hn8, hmethM', -, -, -, -, -, -, hsigM⟩ := Cond.codeWith_spec hcode
  cases Option.some.inj (hn8.symm.trans hnamed)
  cases hmethM.symm.trans hmethM'
  obtain ⟨c2, r2, m2, q1, q2, q3, q4, kP, hkP, hkPi⟩ := Cond.selects_spec hsel
  cases hcls.symm.trans q1
  cases (State.methodFound?_of_named hnamed hy).symm.trans q2
  cases hnamed.symm.trans q3
  have hselP : selectMethod e.platform s.vm cellB.cls mk = .method mk := by rw [Launch.admits_selectMethod X.admits]; exact q4
  obtain ⟨vm₁, X₁, hstep₁⟩ := X.invokevirtual hexec hown hlink hnamed hmethM hstM hkP hkPi hy (a := b) (cell := cellB) hcell
    (fun z h => by rw [h] at hobj; cases hobj) hselP hmethM habM hkP hkPi (g := g) hg (argsL := argsL) (rest := rest) (hlen _ hsigM) hstack hdg
  obtain ⟨v, B, X', hpost, hsteps⟩ := hK m meth c ⟨T.setVm vm₁, locs, cells, slots⟩ { g with stack := rest } (.invokevirtual index) mk (Value.ref b :: argsL).toArray X₁ hg hsize hdg hW (X₁.named hnamed) (hpre vm₁ X₁.warmed)
  exact ⟨v, vm₁, B, X₁.warmed, X', hpost, fun target h => hstep₁ _ fun acts => by rw [doInvoke_state]; exact hsteps.trans h⟩
abbrev vx_CVW (R : Room) (s : State) (args : Array Value) (own C : String) (index : Nat) (y : MethodName) (bytes : ByteArray) (maxL : Nat) (ret : Option FieldType) (hh : List (Nat × Nat × Nat × Nat)) (ws : List Cond) (rm : Room) (mc ms n : Nat) : Prop :=
  (rm.cells = mc ∧ rm.slots = ms ∧ rm.frames + 1 ≤ R.frames ∧ 8 + (maxL + 11) + rm.locals ≤ R.locals ∧ (∀ w ∈ ws, ∀ (a' : Array Value) (U : State), s.WarmedH U.vm → w.before a' U = true) ∧ Cond.codeWith y bytes maxL ret hh ∈ ws) ∧
  (Cond.codeWith y bytes maxL ret hh).before args s = true ∧ (Cond.initialized y.cls).before args s = true ∧ (y.cls ≠ "java/lang/invoke/MethodHandle" ∧ y.cls ≠ "java/lang/invoke/VarHandle") ∧
  (∀ sig, parseMethodDescriptor y.desc = some sig → n = sig.parameters.length) ∧ (Cond.methodLink own index y).before args s = true ∧ (Cond.instanceMethod y).before args s = true ∧ (Cond.selects C y y).before args s = true
theorem vx_cwVW {own C : String} {index maxL mc ms : Nat} {y : MethodName} {bytes : ByteArray} {ret : Option FieldType} {hh : List (Nat × Nat × Nat × Nat)} {Ts ws ws' : List Cond} {rm : Room} (n : Nat) (ht : ∀ w ∈ Ts, w.before args s = true) (hT : GoodIn Ts (wsV own index C y ws)) (hw : ws = Cond.codeWith y bytes maxL ret hh :: ws') (hrc : rm.cells = mc) (hrs : rm.slots = ms)
    (hd : y.cls = C ∧ y.cls ≠ "java/lang/invoke/MethodHandle" ∧ y.cls ≠ "java/lang/invoke/VarHandle" ∧ (parseMethodDescriptor y.desc).map (fun d => d.parameters.length) = some n) (hR : rm.frames + 1 ≤ R.frames ∧ 8 + (maxL + 11) + rm.locals ≤ R.locals) :
    vx_CVW R s args own C index y bytes maxL ret hh ws rm mc ms n := by
  obtain ⟨hC, hd⟩ := hd
  subst hC
  have ok : ∀ w ∈ wsV own index y.cls y ws, w.before args s = true := fun w h => ht w (hT w h).1
  have hG : GoodIn Ts ws := fun w h => hT w (by unfold wsV; exact List.mem_append_right _ h)
  have hc : Cond.codeWith y bytes maxL ret hh ∈ ws := by rw [hw]; exact List.mem_cons_self
  refine ⟨⟨hrc, hrs, hR.1, hR.2, pay_in ht hG, hc⟩, ht _ (hG _ hc).1, ok _ (by simp [wsV]), ⟨hd.1, hd.2.1⟩, fun sig h => ?_, ok _ (by simp [wsV]), ok _ (by simp [wsV]), ok _ (by simp [wsV])⟩
  have h2 := hd.2.2
  rw [h] at h2
  exact (Option.some.inj h2).symm
theorem vx_runVW {y : MethodName} {bytes cc : ByteArray} {maxL nL mc ms n index : Nat} {ret : Option FieldType} {hh : List (Nat × Nat × Nat × Nat)} {ws : List Cond} {rm : Room} {Pc : Array Value → State → Prop} {Qc : Array Value → State → Outcome → State → Prop} {free : Addr → Prop} {Ts : List Cond} {own C : String} {b : Addr} {As rest : List Value} {g : JFrame}
    (S : CallFix p m c cc nL s args Ts own) (hM : Met l y ws rm Pc Qc mc ms free) (cw : vx_CVW R s args own C index y bytes maxL ret hh ws rm mc ms n) (hp : PreV s H C b Pc As)
    (hg : g.method = m) (hn : As.length = n) (hsize : g.locals.size = nL) (hstack : g.stack = As.reverse ++ .ref b :: rest) (hW : 2 * g.monitorRoom + (rest.map fun v => v.category).sum ≤ 8) (hdg : decode cc g.pc = .ok (.invokevirtual index, 3)) (hf : cells + mc ≤ R.cells ∧ slots + ms ≤ R.slots) :
    va_Run p l e R s m args below meth c H locs cells slots mc ms g rest (Qc (Value.ref b :: As).toArray) free := by
  obtain ⟨⟨hrc, hrs, hfr, hlo, hws, hcw⟩, hcode, hini, hy, hlen, hl, hin, hse⟩ := cw
  have hK : Back l R p e below s args y 3 8 (PreOf R mc ms Pc) (PostOf Qc mc ms free) := va_backW (hh := hh) (bytes := bytes) (maxL := maxL) (ret := ret) hM hp.1 hrc hrs hfr hlo hws hcw (fun a' U hW => word_at hW (Or.inl (by first | rfl | simp [Cond.onTables, Cond.keeps, Cond.steady])) hini)
  obtain ⟨hx, hb, hml, ho, -⟩ := S
  obtain ⟨-, ⟨cellB, hcB, hoB, hclB⟩, hPc⟩ := hp
  intro T hT X
  obtain ⟨v, vm₁, ⟨U', l2, c2, s2⟩, hW₁, X', ⟨g', mk, t, L, e1, e2, hq, h1, hL, h2, h3⟩, st⟩ := vx_callVW X hx (C := C) (hh := hh) (bytes := bytes) (maxL := maxL) (ret := ret) ho hl hin hse hcode hy hK (by rw [hT]; exact hcB) hoB hclB hg (hsize.trans hml.symm) (argsL := As) (rest := rest) (fun sig h => hn.trans (hlen sig h)) hstack hW (by rw [hb]; exact hdg)
    (fun vm₁ hW₁ => ⟨hf.1, hf.2, hPc (T.setVm vm₁) hT hW₁⟩)
  dsimp only [Pt.U, Pt.locs, Pt.cells, Pt.slots] at X' e1 e2 h1 h2 h3 st
  subst h1; subst h2; subst h3
  exact ⟨v, (T.setVm vm₁).calling g' mk (Value.ref b :: As).toArray, t, U', L, hT, X', hL, e1, e2, hq, st⟩
section
variable {y : MethodName} {bytes cc : ByteArray} {maxL nL mc ms n index : Nat} {ret : Option FieldType} {ws : List Cond} {rm : Room} {Pc : Array Value → State → Prop} {Qc : Array Value → State → Outcome → State → Prop} {XC : String → State → State → Prop} {free : Addr → Prop} {Ts : List Cond} {own C : String} {b : Addr} {As rest : List Value} {g : JFrame}
theorem vx_runVX {hh : List (Nat × Nat × Nat × Nat)} (S : CallFix p m c cc nL s args Ts own) (hM : vx_Met l y ws rm Pc Qc XC mc ms free) (cw : vx_CVW R s args own C index y bytes maxL ret hh ws rm mc ms n) (hp : PreV s H C b Pc As)
    (hg : g.method = m) (hn : As.length = n) (hsize : g.locals.size = nL) (hstack : g.stack = As.reverse ++ .ref b :: rest) (hW : 2 * g.monitorRoom + (rest.map fun v => v.category).sum ≤ 8) (hdg : decode cc g.pc = .ok (.invokevirtual index, 3)) (hf : cells + mc ≤ R.cells ∧ slots + ms ≤ R.slots) :
    vx_Run p l e R s m args below meth c H locs cells slots mc ms g rest (Qc (Value.ref b :: As).toArray) XC free := by
  obtain ⟨⟨hrc, hrs, hfr, hlo, hws, hcw⟩, hcode, hini, hy, hlen, hl, hin, hse⟩ := cw
  have hK : vx_Back l R p e below s args y 3 8 (PreOf R mc ms Pc) (PostOf Qc mc ms free) (vx_Post XC mc ms free) := vx_backW (hh := hh) (bytes := bytes) (maxL := maxL) (ret := ret) hM hp.1 hrc hrs hfr hlo hws hcw (fun a' U hW => word_at hW (Or.inl (by first | rfl | simp [Cond.onTables, Cond.keeps, Cond.steady])) hini)
  obtain ⟨hx, hb, hml, ho, -⟩ := S
  obtain ⟨-, ⟨cellB, hcB, hoB, hclB⟩, hPc⟩ := hp
  intro T hT X
  rcases vx_callVX X hx (C := C) (hh := hh) (bytes := bytes) (maxL := maxL) (ret := ret) ho hl hin hse hcode hy hK (by rw [hT]; exact hcB) hoB hclB hg (hsize.trans hml.symm) (argsL := As) (rest := rest) (fun sig h => hn.trans (hlen sig h)) hstack hW (by rw [hb]; exact hdg)
    (fun vm₁ hW₁ => ⟨hf.1, hf.2, hPc (T.setVm vm₁) hT hW₁⟩) with ⟨v, vm₁, ⟨U', l2, c2, s2⟩, hW₁, X', ⟨g', mk, t, L, e1, e2, hq, h1, hL, h2, h3⟩, st⟩ | ⟨q, vm₁, ⟨U', l2, c2, s2⟩, hW₁, X', ⟨g', mk, t, L, E, ce, e1, e2, hq, hce, hcv, hcl, h1, hL, h2, h3⟩, st⟩
  · dsimp only [Pt.U, Pt.locs, Pt.cells, Pt.slots] at X' e1 e2 h1 h2 h3 st
    subst h1; subst h2; subst h3
    exact Or.inl ⟨v, (T.setVm vm₁).calling g' mk (Value.ref b :: As).toArray, t, U', L, hT, X', hL, e1, e2, hq, st⟩
  · dsimp only [Pt.U, Pt.locs, Pt.cells, Pt.slots] at X' e1 e2 h1 h2 h3 st hcl
    subst h1; subst h2; subst h3
    exact Or.inr ⟨q, (T.setVm vm₁).calling g' mk (Value.ref b :: As).toArray, t, U', L, E, ce, hT, X', hL, e1, e2, hq, hce, hcv, vx_cls hW₁ hcl, st⟩
theorem vx_runSX {hh : List (Nat × Nat × Nat × Nat)} (S : CallFix p m c cc nL s args Ts own) (hM : vx_Met l y ws rm Pc Qc XC mc ms free) (cw : vx_CSW R s args own index y bytes maxL ret hh ws rm mc ms n) (hp : PreS s H Pc As)
    (hg : g.method = m) (hn : As.length = n) (hsize : g.locals.size = nL) (hstack : g.stack = As.reverse ++ rest) (hW : 2 * g.monitorRoom + (rest.map fun v => v.category).sum ≤ 8) (hdg : decode cc g.pc = .ok (.invokestatic index, 3)) (hf : cells + mc ≤ R.cells ∧ slots + ms ≤ R.slots) :
    vx_Run p l e R s m args below meth c H locs cells slots mc ms g rest (Qc As.toArray) XC free := by
  obtain ⟨⟨hrc, hrs, hfr, hlo, hws, hcw⟩, hcode, hini, hy, hlen, hl, hstt⟩ := cw
  have hK : vx_Back l R p e below s args y 3 8 (PreOf R mc ms Pc) (PostOf Qc mc ms free) (vx_Post XC mc ms free) := vx_backW (hh := hh) (bytes := bytes) (maxL := maxL) (ret := ret) hM hp.1 hrc hrs hfr hlo hws hcw (fun a' U hW => word_at hW (Or.inl (by first | rfl | simp [Cond.onTables, Cond.keeps, Cond.steady])) hini)
  obtain ⟨hx, hb, hml, ho, -⟩ := S
  intro T hT X
  rcases vx_callSX X hx (hh := hh) (bytes := bytes) (maxL := maxL) (ret := ret) ho hl hstt hini hcode hy hK hg (hsize.trans hml.symm) (argsL := As) (rest := rest) (fun sig h => hn.trans (hlen sig h)) hstack hW (by rw [hb]; exact hdg)
    (fun vm₁ hW₁ => ⟨hf.1, hf.2, hp.2 (T.setVm vm₁) hT hW₁⟩) with ⟨v, vm₁, ⟨U', l2, c2, s2⟩, hW₁, X', ⟨g', mk, t, L, e1, e2, hq, h1, hL, h2, h3⟩, st⟩ | ⟨q, vm₁, ⟨U', l2, c2, s2⟩, hW₁, X', ⟨g', mk, t, L, E, ce, e1, e2, hq, hce, hcv, hcl, h1, hL, h2, h3⟩, st⟩
  · dsimp only [Pt.U, Pt.locs, Pt.cells, Pt.slots] at X' e1 e2 h1 h2 h3 st
    subst h1; subst h2; subst h3
    exact Or.inl ⟨v, (T.setVm vm₁).calling g' mk As.toArray, t, U', L, hT, X', hL, e1, e2, hq, st⟩
  · dsimp only [Pt.U, Pt.locs, Pt.cells, Pt.slots] at X' e1 e2 h1 h2 h3 st hcl
    subst h1; subst h2; subst h3
    exact Or.inr ⟨q, (T.setVm vm₁).calling g' mk As.toArray, t, U', L, E, ce, hT, X', hL, e1, e2, hq, hce, hcv, vx_cls hW₁ hcl, st⟩
end
end VXH
theorem vx_ofWH {l : Launch} {y : MethodName} {ws ws' : List Cond} {rm : Room} {Pc : Array Value → State → Prop} {Qc : Array Value → State → Outcome → State → Prop} {XC : String → State → State → Prop} {mc ms : Nat} {free : Addr → Prop} {cc : ByteArray} {maxL : Nat} {ret : Option FieldType} {hh : List (Nat × Nat × Nat × Nat)}
    (hy : plainName y.cls = true) (hw : ws = Cond.codeWith y cc maxL ret hh :: ws')
    (body : ∀ p e s m args below meth c s₁, BodyLoose p l y (headSpec ws rm) cc maxL ret e s m args below meth c s₁ → c.maxLocals = maxL → Pc args s →
      W p l e (headSpec ws rm).room s m args below meth c s.heap [] 0 0 (vx_MQ below Qc XC args s mc ms free) (entryFrame m args maxL)) : vx_Met l y ws rm Pc Qc XC mc ms free := by
  refine MetFree.of_bodyS (code := cc) (maxLocals := maxL) (ret := ret) hy ?_ ?_
  · intro args s m h hn
    obtain ⟨m9, meth, c, hn9, h1, h2, h3, h4, -, h5, h6, -⟩ := Cond.codeWith_spec (atoms_spec (ws := ws) h _ (by rw [hw]; exact List.mem_cons_self))
    cases hn.symm.trans hn9
    exact ⟨meth, c, h1, h2, h3, h4, h5, h6⟩
  · intro p e s m args below meth c s₁ B hml hP _
    have hh0 : s₁.heap = s.heap := by rw [B.state]; rfl
    obtain ⟨t, a1, o, b1, b2, b3⟩ := body p e s m args below meth c s₁ B hml hP s₁ hh0 (Stand.of_body B)
    exact ⟨t, o, a1, b1, b2, b3⟩
/-! ===== END ===== -/
end
section
/-! names of methods, their code, and a row that decodes each instruction (by program out of javap's listing) -/
abbrev bA_init : ByteArray := prog_1_method_1_code
def yA_init : MethodName := ⟨"HandTables", "<init>", "()V"⟩
theorem dA_init_0 : decode bA_init 0 = .ok (.aload_n 0, 1) := by decide +kernel
theorem dA_init_1 : decode bA_init 1 = .ok (.invokespecial 1, 3) := by decide +kernel
theorem dA_init_4 : decode bA_init 4 = .ok (.aload_n 0, 1) := by decide +kernel
theorem dA_init_5 : decode bA_init 5 = .ok (.bipush 7, 2) := by decide +kernel
theorem dA_init_7 : decode bA_init 7 = .ok (.newarray .long, 2) := by decide +kernel
theorem dA_init_9 : decode bA_init 9 = .ok (.putfield 9, 3) := by decide +kernel
theorem dA_init_12 : decode bA_init 12 = .ok (.aload_n 0, 1) := by decide +kernel
theorem dA_init_13 : decode bA_init 13 = .ok (.bipush 52, 2) := by decide +kernel
theorem dA_init_15 : decode bA_init 15 = .ok (.newarray .int, 2) := by decide +kernel
theorem dA_init_17 : decode bA_init 17 = .ok (.putfield 13, 3) := by decide +kernel
theorem dA_init_20 : decode bA_init 20 = .ok (.aload_n 0, 1) := by decide +kernel
theorem dA_init_21 : decode bA_init 21 = .ok (.invokevirtual 17, 3) := by decide +kernel
theorem dA_init_24 : decode bA_init 24 = .ok (.return_, 1) := by decide +kernel
abbrev bA_sortDeck : ByteArray := prog_1_method_34_code
def yA_sortDeck : MethodName := ⟨"HandTables", "sortDeck", "()V"⟩
theorem dA_sortDeck_0 : decode bA_sortDeck 0 = .ok (.iconst 0, 1) := by decide +kernel
theorem dA_sortDeck_1 : decode bA_sortDeck 1 = .ok (.istore_n 1, 1) := by decide +kernel
theorem dA_sortDeck_2 : decode bA_sortDeck 2 = .ok (.iload_n 1, 1) := by decide +kernel
theorem dA_sortDeck_3 : decode bA_sortDeck 3 = .ok (.bipush 52, 2) := by decide +kernel
theorem dA_sortDeck_5 : decode bA_sortDeck 5 = .ok (.if_icmp .ge 16, 3) := by decide +kernel
theorem dA_sortDeck_8 : decode bA_sortDeck 8 = .ok (.aload_n 0, 1) := by decide +kernel
theorem dA_sortDeck_9 : decode bA_sortDeck 9 = .ok (.getfield 13, 3) := by decide +kernel
theorem dA_sortDeck_12 : decode bA_sortDeck 12 = .ok (.iload_n 1, 1) := by decide +kernel
theorem dA_sortDeck_13 : decode bA_sortDeck 13 = .ok (.iload_n 1, 1) := by decide +kernel
theorem dA_sortDeck_14 : decode bA_sortDeck 14 = .ok (.iastore, 1) := by decide +kernel
theorem dA_sortDeck_15 : decode bA_sortDeck 15 = .ok (.iinc 1 1, 3) := by decide +kernel
theorem dA_sortDeck_18 : decode bA_sortDeck 18 = .ok (.goto (-16), 3) := by decide +kernel
theorem dA_sortDeck_21 : decode bA_sortDeck 21 = .ok (.aload_n 0, 1) := by decide +kernel
theorem dA_sortDeck_22 : decode bA_sortDeck 22 = .ok (.iconst 0, 1) := by decide +kernel
theorem dA_sortDeck_23 : decode bA_sortDeck 23 = .ok (.putfield 117, 3) := by decide +kernel
theorem dA_sortDeck_26 : decode bA_sortDeck 26 = .ok (.return_, 1) := by decide +kernel
abbrev bA_clear : ByteArray := prog_1_method_11_code
def yA_clear : MethodName := ⟨"HandTables", "clear", "()I"⟩
theorem dA_clear_0 : decode bA_clear 0 = .ok (.aload_n 0, 1) := by decide +kernel
theorem dA_clear_1 : decode bA_clear 1 = .ok (.invokevirtual 73, 3) := by decide +kernel
theorem dA_clear_4 : decode bA_clear 4 = .ok (.istore_n 1, 1) := by decide +kernel
theorem dA_clear_5 : decode bA_clear 5 = .ok (.aload_n 0, 1) := by decide +kernel
theorem dA_clear_6 : decode bA_clear 6 = .ok (.getfield 9, 3) := by decide +kernel
theorem dA_clear_9 : decode bA_clear 9 = .ok (.bipush 6, 2) := by decide +kernel
theorem dA_clear_11 : decode bA_clear 11 = .ok (.lconst 0, 1) := by decide +kernel
theorem dA_clear_12 : decode bA_clear 12 = .ok (.lastore, 1) := by decide +kernel
theorem dA_clear_13 : decode bA_clear 13 = .ok (.iload_n 1, 1) := by decide +kernel
theorem dA_clear_14 : decode bA_clear 14 = .ok (.ireturn, 1) := by decide +kernel
abbrev bA_boardSize : ByteArray := prog_1_method_27_code
def yA_boardSize : MethodName := ⟨"HandTables", "boardSize", "()I"⟩
theorem dA_boardSize_0 : decode bA_boardSize 0 = .ok (.aload_n 0, 1) := by decide +kernel
theorem dA_boardSize_1 : decode bA_boardSize 1 = .ok (.getfield 9, 3) := by decide +kernel
theorem dA_boardSize_4 : decode bA_boardSize 4 = .ok (.bipush 6, 2) := by decide +kernel
theorem dA_boardSize_6 : decode bA_boardSize 6 = .ok (.laload, 1) := by decide +kernel
theorem dA_boardSize_7 : decode bA_boardSize 7 = .ok (.invokestatic 94, 3) := by decide +kernel
theorem dA_boardSize_10 : decode bA_boardSize 10 = .ok (.ireturn, 1) := by decide +kernel
abbrev bJ_bitCount : ByteArray := prog_9_method_50_code
def yJ_bitCount : MethodName := ⟨"java/lang/Long", "bitCount", "(J)I"⟩
theorem dJ_bitCount_0 : decode bJ_bitCount 0 = .ok (.lload_n 0, 1) := by decide +kernel
theorem dJ_bitCount_1 : decode bJ_bitCount 1 = .ok (.lload_n 0, 1) := by decide +kernel
theorem dJ_bitCount_2 : decode bJ_bitCount 2 = .ok (.iconst 1, 1) := by decide +kernel
theorem dJ_bitCount_3 : decode bJ_bitCount 3 = .ok (.lushr, 1) := by decide +kernel
theorem dJ_bitCount_4 : decode bJ_bitCount 4 = .ok (.ldc2_w 314, 3) := by decide +kernel
theorem dJ_bitCount_7 : decode bJ_bitCount 7 = .ok (.land, 1) := by decide +kernel
theorem dJ_bitCount_8 : decode bJ_bitCount 8 = .ok (.lsub, 1) := by decide +kernel
theorem dJ_bitCount_9 : decode bJ_bitCount 9 = .ok (.lstore_n 0, 1) := by decide +kernel
theorem dJ_bitCount_10 : decode bJ_bitCount 10 = .ok (.lload_n 0, 1) := by decide +kernel
theorem dJ_bitCount_11 : decode bJ_bitCount 11 = .ok (.ldc2_w 316, 3) := by decide +kernel
theorem dJ_bitCount_14 : decode bJ_bitCount 14 = .ok (.land, 1) := by decide +kernel
theorem dJ_bitCount_15 : decode bJ_bitCount 15 = .ok (.lload_n 0, 1) := by decide +kernel
theorem dJ_bitCount_16 : decode bJ_bitCount 16 = .ok (.iconst 2, 1) := by decide +kernel
theorem dJ_bitCount_17 : decode bJ_bitCount 17 = .ok (.lushr, 1) := by decide +kernel
theorem dJ_bitCount_18 : decode bJ_bitCount 18 = .ok (.ldc2_w 316, 3) := by decide +kernel
theorem dJ_bitCount_21 : decode bJ_bitCount 21 = .ok (.land, 1) := by decide +kernel
theorem dJ_bitCount_22 : decode bJ_bitCount 22 = .ok (.ladd, 1) := by decide +kernel
theorem dJ_bitCount_23 : decode bJ_bitCount 23 = .ok (.lstore_n 0, 1) := by decide +kernel
theorem dJ_bitCount_24 : decode bJ_bitCount 24 = .ok (.lload_n 0, 1) := by decide +kernel
theorem dJ_bitCount_25 : decode bJ_bitCount 25 = .ok (.lload_n 0, 1) := by decide +kernel
theorem dJ_bitCount_26 : decode bJ_bitCount 26 = .ok (.iconst 4, 1) := by decide +kernel
theorem dJ_bitCount_27 : decode bJ_bitCount 27 = .ok (.lushr, 1) := by decide +kernel
theorem dJ_bitCount_28 : decode bJ_bitCount 28 = .ok (.ladd, 1) := by decide +kernel
theorem dJ_bitCount_29 : decode bJ_bitCount 29 = .ok (.ldc2_w 318, 3) := by decide +kernel
theorem dJ_bitCount_32 : decode bJ_bitCount 32 = .ok (.land, 1) := by decide +kernel
theorem dJ_bitCount_33 : decode bJ_bitCount 33 = .ok (.lstore_n 0, 1) := by decide +kernel
theorem dJ_bitCount_34 : decode bJ_bitCount 34 = .ok (.lload_n 0, 1) := by decide +kernel
theorem dJ_bitCount_35 : decode bJ_bitCount 35 = .ok (.lload_n 0, 1) := by decide +kernel
theorem dJ_bitCount_36 : decode bJ_bitCount 36 = .ok (.bipush 8, 2) := by decide +kernel
theorem dJ_bitCount_38 : decode bJ_bitCount 38 = .ok (.lushr, 1) := by decide +kernel
theorem dJ_bitCount_39 : decode bJ_bitCount 39 = .ok (.ladd, 1) := by decide +kernel
theorem dJ_bitCount_40 : decode bJ_bitCount 40 = .ok (.lstore_n 0, 1) := by decide +kernel
theorem dJ_bitCount_41 : decode bJ_bitCount 41 = .ok (.lload_n 0, 1) := by decide +kernel
theorem dJ_bitCount_42 : decode bJ_bitCount 42 = .ok (.lload_n 0, 1) := by decide +kernel
theorem dJ_bitCount_43 : decode bJ_bitCount 43 = .ok (.bipush 16, 2) := by decide +kernel
theorem dJ_bitCount_45 : decode bJ_bitCount 45 = .ok (.lushr, 1) := by decide +kernel
theorem dJ_bitCount_46 : decode bJ_bitCount 46 = .ok (.ladd, 1) := by decide +kernel
theorem dJ_bitCount_47 : decode bJ_bitCount 47 = .ok (.lstore_n 0, 1) := by decide +kernel
theorem dJ_bitCount_48 : decode bJ_bitCount 48 = .ok (.lload_n 0, 1) := by decide +kernel
theorem dJ_bitCount_49 : decode bJ_bitCount 49 = .ok (.lload_n 0, 1) := by decide +kernel
theorem dJ_bitCount_50 : decode bJ_bitCount 50 = .ok (.bipush 32, 2) := by decide +kernel
theorem dJ_bitCount_52 : decode bJ_bitCount 52 = .ok (.lushr, 1) := by decide +kernel
theorem dJ_bitCount_53 : decode bJ_bitCount 53 = .ok (.ladd, 1) := by decide +kernel
theorem dJ_bitCount_54 : decode bJ_bitCount 54 = .ok (.lstore_n 0, 1) := by decide +kernel
theorem dJ_bitCount_55 : decode bJ_bitCount 55 = .ok (.lload_n 0, 1) := by decide +kernel
theorem dJ_bitCount_56 : decode bJ_bitCount 56 = .ok (.l2i, 1) := by decide +kernel
theorem dJ_bitCount_57 : decode bJ_bitCount 57 = .ok (.bipush 127, 2) := by decide +kernel
theorem dJ_bitCount_59 : decode bJ_bitCount 59 = .ok (.iand, 1) := by decide +kernel
theorem dJ_bitCount_60 : decode bJ_bitCount 60 = .ok (.ireturn, 1) := by decide +kernel
abbrev bA_shuffle : ByteArray := prog_1_method_19_code
def yA_shuffle : MethodName := ⟨"HandTables", "shuffle", "(I)V"⟩
theorem dA_shuffle_0 : decode bA_shuffle 0 = .ok (.aload_n 0, 1) := by decide +kernel
theorem dA_shuffle_1 : decode bA_shuffle 1 = .ok (.invokevirtual 17, 3) := by decide +kernel
theorem dA_shuffle_4 : decode bA_shuffle 4 = .ok (.iload_n 1, 1) := by decide +kernel
theorem dA_shuffle_5 : decode bA_shuffle 5 = .ok (.istore_n 2, 1) := by decide +kernel
theorem dA_shuffle_6 : decode bA_shuffle 6 = .ok (.bipush 51, 2) := by decide +kernel
theorem dA_shuffle_8 : decode bA_shuffle 8 = .ok (.istore_n 3, 1) := by decide +kernel
theorem dA_shuffle_9 : decode bA_shuffle 9 = .ok (.iload_n 3, 1) := by decide +kernel
theorem dA_shuffle_10 : decode bA_shuffle 10 = .ok (.iconst 1, 1) := by decide +kernel
theorem dA_shuffle_11 : decode bA_shuffle 11 = .ok (.if_icmp .lt 61, 3) := by decide +kernel
theorem dA_shuffle_14 : decode bA_shuffle 14 = .ok (.iload_n 2, 1) := by decide +kernel
theorem dA_shuffle_15 : decode bA_shuffle 15 = .ok (.ldc 115, 2) := by decide +kernel
theorem dA_shuffle_17 : decode bA_shuffle 17 = .ok (.imul, 1) := by decide +kernel
theorem dA_shuffle_18 : decode bA_shuffle 18 = .ok (.sipush 12345, 3) := by decide +kernel
theorem dA_shuffle_21 : decode bA_shuffle 21 = .ok (.iadd, 1) := by decide +kernel
theorem dA_shuffle_22 : decode bA_shuffle 22 = .ok (.istore_n 2, 1) := by decide +kernel
theorem dA_shuffle_23 : decode bA_shuffle 23 = .ok (.iload_n 2, 1) := by decide +kernel
theorem dA_shuffle_24 : decode bA_shuffle 24 = .ok (.ldc 116, 2) := by decide +kernel
theorem dA_shuffle_26 : decode bA_shuffle 26 = .ok (.iand, 1) := by decide +kernel
theorem dA_shuffle_27 : decode bA_shuffle 27 = .ok (.bipush 8, 2) := by decide +kernel
theorem dA_shuffle_29 : decode bA_shuffle 29 = .ok (.ishr, 1) := by decide +kernel
theorem dA_shuffle_30 : decode bA_shuffle 30 = .ok (.iload_n 3, 1) := by decide +kernel
theorem dA_shuffle_31 : decode bA_shuffle 31 = .ok (.iconst 1, 1) := by decide +kernel
theorem dA_shuffle_32 : decode bA_shuffle 32 = .ok (.iadd, 1) := by decide +kernel
theorem dA_shuffle_33 : decode bA_shuffle 33 = .ok (.irem, 1) := by decide +kernel
theorem dA_shuffle_34 : decode bA_shuffle 34 = .ok (.istore 4, 2) := by decide +kernel
theorem dA_shuffle_36 : decode bA_shuffle 36 = .ok (.aload_n 0, 1) := by decide +kernel
theorem dA_shuffle_37 : decode bA_shuffle 37 = .ok (.getfield 13, 3) := by decide +kernel
theorem dA_shuffle_40 : decode bA_shuffle 40 = .ok (.iload_n 3, 1) := by decide +kernel
theorem dA_shuffle_41 : decode bA_shuffle 41 = .ok (.iaload, 1) := by decide +kernel
theorem dA_shuffle_42 : decode bA_shuffle 42 = .ok (.istore 5, 2) := by decide +kernel
theorem dA_shuffle_44 : decode bA_shuffle 44 = .ok (.aload_n 0, 1) := by decide +kernel
theorem dA_shuffle_45 : decode bA_shuffle 45 = .ok (.getfield 13, 3) := by decide +kernel
theorem dA_shuffle_48 : decode bA_shuffle 48 = .ok (.iload_n 3, 1) := by decide +kernel
theorem dA_shuffle_49 : decode bA_shuffle 49 = .ok (.aload_n 0, 1) := by decide +kernel
theorem dA_shuffle_50 : decode bA_shuffle 50 = .ok (.getfield 13, 3) := by decide +kernel
theorem dA_shuffle_53 : decode bA_shuffle 53 = .ok (.iload 4, 2) := by decide +kernel
theorem dA_shuffle_55 : decode bA_shuffle 55 = .ok (.iaload, 1) := by decide +kernel
theorem dA_shuffle_56 : decode bA_shuffle 56 = .ok (.iastore, 1) := by decide +kernel
theorem dA_shuffle_57 : decode bA_shuffle 57 = .ok (.aload_n 0, 1) := by decide +kernel
theorem dA_shuffle_58 : decode bA_shuffle 58 = .ok (.getfield 13, 3) := by decide +kernel
theorem dA_shuffle_61 : decode bA_shuffle 61 = .ok (.iload 4, 2) := by decide +kernel
theorem dA_shuffle_63 : decode bA_shuffle 63 = .ok (.iload 5, 2) := by decide +kernel
theorem dA_shuffle_65 : decode bA_shuffle 65 = .ok (.iastore, 1) := by decide +kernel
theorem dA_shuffle_66 : decode bA_shuffle 66 = .ok (.iinc 3 (-1), 3) := by decide +kernel
theorem dA_shuffle_69 : decode bA_shuffle 69 = .ok (.goto (-60), 3) := by decide +kernel
theorem dA_shuffle_72 : decode bA_shuffle 72 = .ok (.return_, 1) := by decide +kernel
abbrev bA_draw : ByteArray := prog_1_method_20_code
def yA_draw : MethodName := ⟨"HandTables", "draw", "()I"⟩
theorem dA_draw_0 : decode bA_draw 0 = .ok (.aload_n 0, 1) := by decide +kernel
theorem dA_draw_1 : decode bA_draw 1 = .ok (.getfield 117, 3) := by decide +kernel
theorem dA_draw_4 : decode bA_draw 4 = .ok (.bipush 52, 2) := by decide +kernel
theorem dA_draw_6 : decode bA_draw 6 = .ok (.if_icmp .lt 5, 3) := by decide +kernel
theorem dA_draw_9 : decode bA_draw 9 = .ok (.iconst (-1), 1) := by decide +kernel
theorem dA_draw_10 : decode bA_draw 10 = .ok (.ireturn, 1) := by decide +kernel
theorem dA_draw_11 : decode bA_draw 11 = .ok (.aload_n 0, 1) := by decide +kernel
theorem dA_draw_12 : decode bA_draw 12 = .ok (.getfield 13, 3) := by decide +kernel
theorem dA_draw_15 : decode bA_draw 15 = .ok (.aload_n 0, 1) := by decide +kernel
theorem dA_draw_16 : decode bA_draw 16 = .ok (.getfield 117, 3) := by decide +kernel
theorem dA_draw_19 : decode bA_draw 19 = .ok (.iaload, 1) := by decide +kernel
theorem dA_draw_20 : decode bA_draw 20 = .ok (.istore_n 1, 1) := by decide +kernel
theorem dA_draw_21 : decode bA_draw 21 = .ok (.aload_n 0, 1) := by decide +kernel
theorem dA_draw_22 : decode bA_draw 22 = .ok (.dup, 1) := by decide +kernel
theorem dA_draw_23 : decode bA_draw 23 = .ok (.getfield 117, 3) := by decide +kernel
theorem dA_draw_26 : decode bA_draw 26 = .ok (.iconst 1, 1) := by decide +kernel
theorem dA_draw_27 : decode bA_draw 27 = .ok (.iadd, 1) := by decide +kernel
theorem dA_draw_28 : decode bA_draw 28 = .ok (.putfield 117, 3) := by decide +kernel
theorem dA_draw_31 : decode bA_draw 31 = .ok (.iload_n 1, 1) := by decide +kernel
theorem dA_draw_32 : decode bA_draw 32 = .ok (.ireturn, 1) := by decide +kernel
abbrev bA_value : ByteArray := prog_1_method_2_code
def yA_value : MethodName := ⟨"HandTables", "value", "(J)I"⟩
theorem dA_value_0 : decode bA_value 0 = .ok (.lload_n 1, 1) := by decide +kernel
theorem dA_value_1 : decode bA_value 1 = .ok (.invokestatic 20, 3) := by decide +kernel
theorem dA_value_4 : decode bA_value 4 = .ok (.lload_n 1, 1) := by decide +kernel
theorem dA_value_5 : decode bA_value 5 = .ok (.invokestatic 24, 3) := by decide +kernel
theorem dA_value_8 : decode bA_value 8 = .ok (.ireturn, 1) := by decide +kernel
abbrev bA_requireHand : ByteArray := prog_1_method_21_code
def yA_requireHand : MethodName := ⟨"HandTables", "requireHand", "(J)V"⟩
theorem dA_requireHand_0 : decode bA_requireHand 0 = .ok (.lload_n 0, 1) := by decide +kernel
theorem dA_requireHand_1 : decode bA_requireHand 1 = .ok (.invokestatic 94, 3) := by decide +kernel
theorem dA_requireHand_4 : decode bA_requireHand 4 = .ok (.istore_n 2, 1) := by decide +kernel
theorem dA_requireHand_5 : decode bA_requireHand 5 = .ok (.iload_n 2, 1) := by decide +kernel
theorem dA_requireHand_6 : decode bA_requireHand 6 = .ok (.iconst 5, 1) := by decide +kernel
theorem dA_requireHand_7 : decode bA_requireHand 7 = .ok (.if_icmp .lt 19, 3) := by decide +kernel
theorem dA_requireHand_10 : decode bA_requireHand 10 = .ok (.iload_n 2, 1) := by decide +kernel
theorem dA_requireHand_11 : decode bA_requireHand 11 = .ok (.bipush 7, 2) := by decide +kernel
theorem dA_requireHand_13 : decode bA_requireHand 13 = .ok (.if_icmp .gt 13, 3) := by decide +kernel
theorem dA_requireHand_16 : decode bA_requireHand 16 = .ok (.lload_n 0, 1) := by decide +kernel
theorem dA_requireHand_17 : decode bA_requireHand 17 = .ok (.ldc2_w 121, 3) := by decide +kernel
theorem dA_requireHand_20 : decode bA_requireHand 20 = .ok (.land, 1) := by decide +kernel
theorem dA_requireHand_21 : decode bA_requireHand 21 = .ok (.lconst 0, 1) := by decide +kernel
theorem dA_requireHand_22 : decode bA_requireHand 22 = .ok (.lcmp, 1) := by decide +kernel
theorem dA_requireHand_23 : decode bA_requireHand 23 = .ok (.ifCond .eq 13, 3) := by decide +kernel
theorem dA_requireHand_26 : decode bA_requireHand 26 = .ok (.new 50, 3) := by decide +kernel
theorem dA_requireHand_29 : decode bA_requireHand 29 = .ok (.dup, 1) := by decide +kernel
theorem dA_requireHand_30 : decode bA_requireHand 30 = .ok (.ldc 123, 2) := by decide +kernel
theorem dA_requireHand_32 : decode bA_requireHand 32 = .ok (.invokespecial 54, 3) := by decide +kernel
theorem dA_requireHand_35 : decode bA_requireHand 35 = .ok (.athrow, 1) := by decide +kernel
theorem dA_requireHand_36 : decode bA_requireHand 36 = .ok (.return_, 1) := by decide +kernel
abbrev bA_valueOf : ByteArray := prog_1_method_37_code
def yA_valueOf : MethodName := ⟨"HandTables", "valueOf", "(J)I"⟩
theorem dA_valueOf_0 : decode bA_valueOf 0 = .ok (.lload_n 0, 1) := by decide +kernel
theorem dA_valueOf_1 : decode bA_valueOf 1 = .ok (.invokestatic 144, 3) := by decide +kernel
theorem dA_valueOf_4 : decode bA_valueOf 4 = .ok (.lstore_n 2, 1) := by decide +kernel
theorem dA_valueOf_5 : decode bA_valueOf 5 = .ok (.lload_n 2, 1) := by decide +kernel
theorem dA_valueOf_6 : decode bA_valueOf 6 = .ok (.invokestatic 148, 3) := by decide +kernel
theorem dA_valueOf_9 : decode bA_valueOf 9 = .ok (.lstore 4, 2) := by decide +kernel
theorem dA_valueOf_11 : decode bA_valueOf 11 = .ok (.lload 4, 2) := by decide +kernel
theorem dA_valueOf_13 : decode bA_valueOf 13 = .ok (.lconst 0, 1) := by decide +kernel
theorem dA_valueOf_14 : decode bA_valueOf 14 = .ok (.lcmp, 1) := by decide +kernel
theorem dA_valueOf_15 : decode bA_valueOf 15 = .ok (.ifCond .eq 16, 3) := by decide +kernel
theorem dA_valueOf_18 : decode bA_valueOf 18 = .ok (.getstatic 40, 3) := by decide +kernel
theorem dA_valueOf_21 : decode bA_valueOf 21 = .ok (.bipush 8, 2) := by decide +kernel
theorem dA_valueOf_23 : decode bA_valueOf 23 = .ok (.iaload, 1) := by decide +kernel
theorem dA_valueOf_24 : decode bA_valueOf 24 = .ok (.lload 4, 2) := by decide +kernel
theorem dA_valueOf_26 : decode bA_valueOf 26 = .ok (.invokestatic 151, 3) := by decide +kernel
theorem dA_valueOf_29 : decode bA_valueOf 29 = .ok (.iadd, 1) := by decide +kernel
theorem dA_valueOf_30 : decode bA_valueOf 30 = .ok (.ireturn, 1) := by decide +kernel
theorem dA_valueOf_31 : decode bA_valueOf 31 = .ok (.lload_n 0, 1) := by decide +kernel
theorem dA_valueOf_32 : decode bA_valueOf 32 = .ok (.ldc2_w 154, 3) := by decide +kernel
theorem dA_valueOf_35 : decode bA_valueOf 35 = .ok (.land, 1) := by decide +kernel
theorem dA_valueOf_36 : decode bA_valueOf 36 = .ok (.lstore 6, 2) := by decide +kernel
theorem dA_valueOf_38 : decode bA_valueOf 38 = .ok (.lload_n 0, 1) := by decide +kernel
theorem dA_valueOf_39 : decode bA_valueOf 39 = .ok (.iconst 1, 1) := by decide +kernel
theorem dA_valueOf_40 : decode bA_valueOf 40 = .ok (.lushr, 1) := by decide +kernel
theorem dA_valueOf_41 : decode bA_valueOf 41 = .ok (.ldc2_w 154, 3) := by decide +kernel
theorem dA_valueOf_44 : decode bA_valueOf 44 = .ok (.land, 1) := by decide +kernel
theorem dA_valueOf_45 : decode bA_valueOf 45 = .ok (.lstore 8, 2) := by decide +kernel
theorem dA_valueOf_47 : decode bA_valueOf 47 = .ok (.lload_n 0, 1) := by decide +kernel
theorem dA_valueOf_48 : decode bA_valueOf 48 = .ok (.iconst 2, 1) := by decide +kernel
theorem dA_valueOf_49 : decode bA_valueOf 49 = .ok (.lushr, 1) := by decide +kernel
theorem dA_valueOf_50 : decode bA_valueOf 50 = .ok (.ldc2_w 154, 3) := by decide +kernel
theorem dA_valueOf_53 : decode bA_valueOf 53 = .ok (.land, 1) := by decide +kernel
theorem dA_valueOf_54 : decode bA_valueOf 54 = .ok (.lstore 10, 2) := by decide +kernel
theorem dA_valueOf_56 : decode bA_valueOf 56 = .ok (.lload_n 0, 1) := by decide +kernel
theorem dA_valueOf_57 : decode bA_valueOf 57 = .ok (.iconst 3, 1) := by decide +kernel
theorem dA_valueOf_58 : decode bA_valueOf 58 = .ok (.lushr, 1) := by decide +kernel
theorem dA_valueOf_59 : decode bA_valueOf 59 = .ok (.ldc2_w 154, 3) := by decide +kernel
theorem dA_valueOf_62 : decode bA_valueOf 62 = .ok (.land, 1) := by decide +kernel
theorem dA_valueOf_63 : decode bA_valueOf 63 = .ok (.lstore 12, 2) := by decide +kernel
theorem dA_valueOf_65 : decode bA_valueOf 65 = .ok (.lload 6, 2) := by decide +kernel
theorem dA_valueOf_67 : decode bA_valueOf 67 = .ok (.lload 8, 2) := by decide +kernel
theorem dA_valueOf_69 : decode bA_valueOf 69 = .ok (.lor, 1) := by decide +kernel
theorem dA_valueOf_70 : decode bA_valueOf 70 = .ok (.lload 10, 2) := by decide +kernel
theorem dA_valueOf_72 : decode bA_valueOf 72 = .ok (.lor, 1) := by decide +kernel
theorem dA_valueOf_73 : decode bA_valueOf 73 = .ok (.lload 12, 2) := by decide +kernel
theorem dA_valueOf_75 : decode bA_valueOf 75 = .ok (.lor, 1) := by decide +kernel
theorem dA_valueOf_76 : decode bA_valueOf 76 = .ok (.lstore 14, 2) := by decide +kernel
theorem dA_valueOf_78 : decode bA_valueOf 78 = .ok (.lload 6, 2) := by decide +kernel
theorem dA_valueOf_80 : decode bA_valueOf 80 = .ok (.lload 8, 2) := by decide +kernel
theorem dA_valueOf_82 : decode bA_valueOf 82 = .ok (.land, 1) := by decide +kernel
theorem dA_valueOf_83 : decode bA_valueOf 83 = .ok (.lload 10, 2) := by decide +kernel
theorem dA_valueOf_85 : decode bA_valueOf 85 = .ok (.lload 12, 2) := by decide +kernel
theorem dA_valueOf_87 : decode bA_valueOf 87 = .ok (.land, 1) := by decide +kernel
theorem dA_valueOf_88 : decode bA_valueOf 88 = .ok (.lor, 1) := by decide +kernel
theorem dA_valueOf_89 : decode bA_valueOf 89 = .ok (.lload 6, 2) := by decide +kernel
theorem dA_valueOf_91 : decode bA_valueOf 91 = .ok (.lload 8, 2) := by decide +kernel
theorem dA_valueOf_93 : decode bA_valueOf 93 = .ok (.lor, 1) := by decide +kernel
theorem dA_valueOf_94 : decode bA_valueOf 94 = .ok (.lload 10, 2) := by decide +kernel
theorem dA_valueOf_96 : decode bA_valueOf 96 = .ok (.lload 12, 2) := by decide +kernel
theorem dA_valueOf_98 : decode bA_valueOf 98 = .ok (.lor, 1) := by decide +kernel
theorem dA_valueOf_99 : decode bA_valueOf 99 = .ok (.land, 1) := by decide +kernel
theorem dA_valueOf_100 : decode bA_valueOf 100 = .ok (.lor, 1) := by decide +kernel
theorem dA_valueOf_101 : decode bA_valueOf 101 = .ok (.lstore 16, 2) := by decide +kernel
theorem dA_valueOf_103 : decode bA_valueOf 103 = .ok (.lload 6, 2) := by decide +kernel
theorem dA_valueOf_105 : decode bA_valueOf 105 = .ok (.lload 8, 2) := by decide +kernel
theorem dA_valueOf_107 : decode bA_valueOf 107 = .ok (.land, 1) := by decide +kernel
theorem dA_valueOf_108 : decode bA_valueOf 108 = .ok (.lload 10, 2) := by decide +kernel
theorem dA_valueOf_110 : decode bA_valueOf 110 = .ok (.lload 12, 2) := by decide +kernel
theorem dA_valueOf_112 : decode bA_valueOf 112 = .ok (.lor, 1) := by decide +kernel
theorem dA_valueOf_113 : decode bA_valueOf 113 = .ok (.land, 1) := by decide +kernel
theorem dA_valueOf_114 : decode bA_valueOf 114 = .ok (.lload 10, 2) := by decide +kernel
theorem dA_valueOf_116 : decode bA_valueOf 116 = .ok (.lload 12, 2) := by decide +kernel
theorem dA_valueOf_118 : decode bA_valueOf 118 = .ok (.land, 1) := by decide +kernel
theorem dA_valueOf_119 : decode bA_valueOf 119 = .ok (.lload 6, 2) := by decide +kernel
theorem dA_valueOf_121 : decode bA_valueOf 121 = .ok (.lload 8, 2) := by decide +kernel
theorem dA_valueOf_123 : decode bA_valueOf 123 = .ok (.lor, 1) := by decide +kernel
theorem dA_valueOf_124 : decode bA_valueOf 124 = .ok (.land, 1) := by decide +kernel
theorem dA_valueOf_125 : decode bA_valueOf 125 = .ok (.lor, 1) := by decide +kernel
theorem dA_valueOf_126 : decode bA_valueOf 126 = .ok (.lstore 18, 2) := by decide +kernel
theorem dA_valueOf_128 : decode bA_valueOf 128 = .ok (.lload 6, 2) := by decide +kernel
theorem dA_valueOf_130 : decode bA_valueOf 130 = .ok (.lload 8, 2) := by decide +kernel
theorem dA_valueOf_132 : decode bA_valueOf 132 = .ok (.land, 1) := by decide +kernel
theorem dA_valueOf_133 : decode bA_valueOf 133 = .ok (.lload 10, 2) := by decide +kernel
theorem dA_valueOf_135 : decode bA_valueOf 135 = .ok (.land, 1) := by decide +kernel
theorem dA_valueOf_136 : decode bA_valueOf 136 = .ok (.lload 12, 2) := by decide +kernel
theorem dA_valueOf_138 : decode bA_valueOf 138 = .ok (.land, 1) := by decide +kernel
theorem dA_valueOf_139 : decode bA_valueOf 139 = .ok (.lstore 20, 2) := by decide +kernel
theorem dA_valueOf_141 : decode bA_valueOf 141 = .ok (.lload 20, 2) := by decide +kernel
theorem dA_valueOf_143 : decode bA_valueOf 143 = .ok (.lconst 0, 1) := by decide +kernel
theorem dA_valueOf_144 : decode bA_valueOf 144 = .ok (.lcmp, 1) := by decide +kernel
theorem dA_valueOf_145 : decode bA_valueOf 145 = .ok (.ifCond .eq 35, 3) := by decide +kernel
theorem dA_valueOf_148 : decode bA_valueOf 148 = .ok (.lload 20, 2) := by decide +kernel
theorem dA_valueOf_150 : decode bA_valueOf 150 = .ok (.invokestatic 151, 3) := by decide +kernel
theorem dA_valueOf_153 : decode bA_valueOf 153 = .ok (.istore 22, 2) := by decide +kernel
theorem dA_valueOf_155 : decode bA_valueOf 155 = .ok (.getstatic 40, 3) := by decide +kernel
theorem dA_valueOf_158 : decode bA_valueOf 158 = .ok (.bipush 7, 2) := by decide +kernel
theorem dA_valueOf_160 : decode bA_valueOf 160 = .ok (.iaload, 1) := by decide +kernel
theorem dA_valueOf_161 : decode bA_valueOf 161 = .ok (.iload 22, 2) := by decide +kernel
theorem dA_valueOf_163 : decode bA_valueOf 163 = .ok (.bipush 12, 2) := by decide +kernel
theorem dA_valueOf_165 : decode bA_valueOf 165 = .ok (.imul, 1) := by decide +kernel
theorem dA_valueOf_166 : decode bA_valueOf 166 = .ok (.iadd, 1) := by decide +kernel
theorem dA_valueOf_167 : decode bA_valueOf 167 = .ok (.lload 14, 2) := by decide +kernel
theorem dA_valueOf_169 : decode bA_valueOf 169 = .ok (.iload 22, 2) := by decide +kernel
theorem dA_valueOf_171 : decode bA_valueOf 171 = .ok (.invokestatic 156, 3) := by decide +kernel
theorem dA_valueOf_174 : decode bA_valueOf 174 = .ok (.iconst 1, 1) := by decide +kernel
theorem dA_valueOf_175 : decode bA_valueOf 175 = .ok (.invokestatic 160, 3) := by decide +kernel
theorem dA_valueOf_178 : decode bA_valueOf 178 = .ok (.iadd, 1) := by decide +kernel
theorem dA_valueOf_179 : decode bA_valueOf 179 = .ok (.ireturn, 1) := by decide +kernel
theorem dA_valueOf_180 : decode bA_valueOf 180 = .ok (.lload 18, 2) := by decide +kernel
theorem dA_valueOf_182 : decode bA_valueOf 182 = .ok (.invokestatic 151, 3) := by decide +kernel
theorem dA_valueOf_185 : decode bA_valueOf 185 = .ok (.istore 22, 2) := by decide +kernel
theorem dA_valueOf_187 : decode bA_valueOf 187 = .ok (.lload 18, 2) := by decide +kernel
theorem dA_valueOf_189 : decode bA_valueOf 189 = .ok (.lconst 0, 1) := by decide +kernel
theorem dA_valueOf_190 : decode bA_valueOf 190 = .ok (.lcmp, 1) := by decide +kernel
theorem dA_valueOf_191 : decode bA_valueOf 191 = .ok (.ifCond .eq 40, 3) := by decide +kernel
theorem dA_valueOf_194 : decode bA_valueOf 194 = .ok (.lload 16, 2) := by decide +kernel
theorem dA_valueOf_196 : decode bA_valueOf 196 = .ok (.iload 22, 2) := by decide +kernel
theorem dA_valueOf_198 : decode bA_valueOf 198 = .ok (.invokestatic 156, 3) := by decide +kernel
theorem dA_valueOf_201 : decode bA_valueOf 201 = .ok (.lconst 0, 1) := by decide +kernel
theorem dA_valueOf_202 : decode bA_valueOf 202 = .ok (.lcmp, 1) := by decide +kernel
theorem dA_valueOf_203 : decode bA_valueOf 203 = .ok (.ifCond .eq 28, 3) := by decide +kernel
theorem dA_valueOf_206 : decode bA_valueOf 206 = .ok (.getstatic 40, 3) := by decide +kernel
theorem dA_valueOf_209 : decode bA_valueOf 209 = .ok (.bipush 6, 2) := by decide +kernel
theorem dA_valueOf_211 : decode bA_valueOf 211 = .ok (.iaload, 1) := by decide +kernel
theorem dA_valueOf_212 : decode bA_valueOf 212 = .ok (.iload 22, 2) := by decide +kernel
theorem dA_valueOf_214 : decode bA_valueOf 214 = .ok (.bipush 12, 2) := by decide +kernel
theorem dA_valueOf_216 : decode bA_valueOf 216 = .ok (.imul, 1) := by decide +kernel
theorem dA_valueOf_217 : decode bA_valueOf 217 = .ok (.iadd, 1) := by decide +kernel
theorem dA_valueOf_218 : decode bA_valueOf 218 = .ok (.lload 16, 2) := by decide +kernel
theorem dA_valueOf_220 : decode bA_valueOf 220 = .ok (.iload 22, 2) := by decide +kernel
theorem dA_valueOf_222 : decode bA_valueOf 222 = .ok (.invokestatic 156, 3) := by decide +kernel
theorem dA_valueOf_225 : decode bA_valueOf 225 = .ok (.iconst 1, 1) := by decide +kernel
theorem dA_valueOf_226 : decode bA_valueOf 226 = .ok (.invokestatic 160, 3) := by decide +kernel
theorem dA_valueOf_229 : decode bA_valueOf 229 = .ok (.iadd, 1) := by decide +kernel
theorem dA_valueOf_230 : decode bA_valueOf 230 = .ok (.ireturn, 1) := by decide +kernel
theorem dA_valueOf_231 : decode bA_valueOf 231 = .ok (.lload_n 2, 1) := by decide +kernel
theorem dA_valueOf_232 : decode bA_valueOf 232 = .ok (.lconst 0, 1) := by decide +kernel
theorem dA_valueOf_233 : decode bA_valueOf 233 = .ok (.lcmp, 1) := by decide +kernel
theorem dA_valueOf_234 : decode bA_valueOf 234 = .ok (.ifCond .eq 14, 3) := by decide +kernel
theorem dA_valueOf_237 : decode bA_valueOf 237 = .ok (.getstatic 40, 3) := by decide +kernel
theorem dA_valueOf_240 : decode bA_valueOf 240 = .ok (.iconst 5, 1) := by decide +kernel
theorem dA_valueOf_241 : decode bA_valueOf 241 = .ok (.iaload, 1) := by decide +kernel
theorem dA_valueOf_242 : decode bA_valueOf 242 = .ok (.lload_n 2, 1) := by decide +kernel
theorem dA_valueOf_243 : decode bA_valueOf 243 = .ok (.invokestatic 164, 3) := by decide +kernel
theorem dA_valueOf_246 : decode bA_valueOf 246 = .ok (.iadd, 1) := by decide +kernel
theorem dA_valueOf_247 : decode bA_valueOf 247 = .ok (.ireturn, 1) := by decide +kernel
theorem dA_valueOf_248 : decode bA_valueOf 248 = .ok (.lload 14, 2) := by decide +kernel
theorem dA_valueOf_250 : decode bA_valueOf 250 = .ok (.invokestatic 148, 3) := by decide +kernel
theorem dA_valueOf_253 : decode bA_valueOf 253 = .ok (.lstore 23, 2) := by decide +kernel
theorem dA_valueOf_255 : decode bA_valueOf 255 = .ok (.lload 23, 2) := by decide +kernel
theorem dA_valueOf_257 : decode bA_valueOf 257 = .ok (.lconst 0, 1) := by decide +kernel
theorem dA_valueOf_258 : decode bA_valueOf 258 = .ok (.lcmp, 1) := by decide +kernel
theorem dA_valueOf_259 : decode bA_valueOf 259 = .ok (.ifCond .eq 15, 3) := by decide +kernel
theorem dA_valueOf_262 : decode bA_valueOf 262 = .ok (.getstatic 40, 3) := by decide +kernel
theorem dA_valueOf_265 : decode bA_valueOf 265 = .ok (.iconst 4, 1) := by decide +kernel
theorem dA_valueOf_266 : decode bA_valueOf 266 = .ok (.iaload, 1) := by decide +kernel
theorem dA_valueOf_267 : decode bA_valueOf 267 = .ok (.lload 23, 2) := by decide +kernel
theorem dA_valueOf_269 : decode bA_valueOf 269 = .ok (.invokestatic 151, 3) := by decide +kernel
theorem dA_valueOf_272 : decode bA_valueOf 272 = .ok (.iadd, 1) := by decide +kernel
theorem dA_valueOf_273 : decode bA_valueOf 273 = .ok (.ireturn, 1) := by decide +kernel
theorem dA_valueOf_274 : decode bA_valueOf 274 = .ok (.lload 18, 2) := by decide +kernel
theorem dA_valueOf_276 : decode bA_valueOf 276 = .ok (.lconst 0, 1) := by decide +kernel
theorem dA_valueOf_277 : decode bA_valueOf 277 = .ok (.lcmp, 1) := by decide +kernel
theorem dA_valueOf_278 : decode bA_valueOf 278 = .ok (.ifCond .eq 27, 3) := by decide +kernel
theorem dA_valueOf_281 : decode bA_valueOf 281 = .ok (.getstatic 40, 3) := by decide +kernel
theorem dA_valueOf_284 : decode bA_valueOf 284 = .ok (.iconst 3, 1) := by decide +kernel
theorem dA_valueOf_285 : decode bA_valueOf 285 = .ok (.iaload, 1) := by decide +kernel
theorem dA_valueOf_286 : decode bA_valueOf 286 = .ok (.iload 22, 2) := by decide +kernel
theorem dA_valueOf_288 : decode bA_valueOf 288 = .ok (.bipush 66, 2) := by decide +kernel
theorem dA_valueOf_290 : decode bA_valueOf 290 = .ok (.imul, 1) := by decide +kernel
theorem dA_valueOf_291 : decode bA_valueOf 291 = .ok (.iadd, 1) := by decide +kernel
theorem dA_valueOf_292 : decode bA_valueOf 292 = .ok (.lload 14, 2) := by decide +kernel
theorem dA_valueOf_294 : decode bA_valueOf 294 = .ok (.iload 22, 2) := by decide +kernel
theorem dA_valueOf_296 : decode bA_valueOf 296 = .ok (.invokestatic 156, 3) := by decide +kernel
theorem dA_valueOf_299 : decode bA_valueOf 299 = .ok (.iconst 2, 1) := by decide +kernel
theorem dA_valueOf_300 : decode bA_valueOf 300 = .ok (.invokestatic 160, 3) := by decide +kernel
theorem dA_valueOf_303 : decode bA_valueOf 303 = .ok (.iadd, 1) := by decide +kernel
theorem dA_valueOf_304 : decode bA_valueOf 304 = .ok (.ireturn, 1) := by decide +kernel
theorem dA_valueOf_305 : decode bA_valueOf 305 = .ok (.lload 16, 2) := by decide +kernel
theorem dA_valueOf_307 : decode bA_valueOf 307 = .ok (.lconst 0, 1) := by decide +kernel
theorem dA_valueOf_308 : decode bA_valueOf 308 = .ok (.lcmp, 1) := by decide +kernel
theorem dA_valueOf_309 : decode bA_valueOf 309 = .ok (.ifCond .eq 13, 3) := by decide +kernel
theorem dA_valueOf_312 : decode bA_valueOf 312 = .ok (.lload 14, 2) := by decide +kernel
theorem dA_valueOf_314 : decode bA_valueOf 314 = .ok (.lload 16, 2) := by decide +kernel
theorem dA_valueOf_316 : decode bA_valueOf 316 = .ok (.invokestatic 167, 3) := by decide +kernel
theorem dA_valueOf_319 : decode bA_valueOf 319 = .ok (.goto 14, 3) := by decide +kernel
theorem dA_valueOf_322 : decode bA_valueOf 322 = .ok (.getstatic 40, 3) := by decide +kernel
theorem dA_valueOf_325 : decode bA_valueOf 325 = .ok (.iconst 0, 1) := by decide +kernel
theorem dA_valueOf_326 : decode bA_valueOf 326 = .ok (.iaload, 1) := by decide +kernel
theorem dA_valueOf_327 : decode bA_valueOf 327 = .ok (.lload 14, 2) := by decide +kernel
theorem dA_valueOf_329 : decode bA_valueOf 329 = .ok (.invokestatic 164, 3) := by decide +kernel
theorem dA_valueOf_332 : decode bA_valueOf 332 = .ok (.iadd, 1) := by decide +kernel
theorem dA_valueOf_333 : decode bA_valueOf 333 = .ok (.ireturn, 1) := by decide +kernel
abbrev bA_suitedRanks : ByteArray := prog_1_method_39_code
def yA_suitedRanks : MethodName := ⟨"HandTables", "suitedRanks", "(J)J"⟩
theorem dA_suitedRanks_0 : decode bA_suitedRanks 0 = .ok (.iconst 0, 1) := by decide +kernel
theorem dA_suitedRanks_1 : decode bA_suitedRanks 1 = .ok (.istore_n 2, 1) := by decide +kernel
theorem dA_suitedRanks_2 : decode bA_suitedRanks 2 = .ok (.iload_n 2, 1) := by decide +kernel
theorem dA_suitedRanks_3 : decode bA_suitedRanks 3 = .ok (.iconst 4, 1) := by decide +kernel
theorem dA_suitedRanks_4 : decode bA_suitedRanks 4 = .ok (.if_icmp .ge 27, 3) := by decide +kernel
theorem dA_suitedRanks_7 : decode bA_suitedRanks 7 = .ok (.lload_n 0, 1) := by decide +kernel
theorem dA_suitedRanks_8 : decode bA_suitedRanks 8 = .ok (.iload_n 2, 1) := by decide +kernel
theorem dA_suitedRanks_9 : decode bA_suitedRanks 9 = .ok (.lushr, 1) := by decide +kernel
theorem dA_suitedRanks_10 : decode bA_suitedRanks 10 = .ok (.ldc2_w 154, 3) := by decide +kernel
theorem dA_suitedRanks_13 : decode bA_suitedRanks 13 = .ok (.land, 1) := by decide +kernel
theorem dA_suitedRanks_14 : decode bA_suitedRanks 14 = .ok (.lstore_n 3, 1) := by decide +kernel
theorem dA_suitedRanks_15 : decode bA_suitedRanks 15 = .ok (.lload_n 3, 1) := by decide +kernel
theorem dA_suitedRanks_16 : decode bA_suitedRanks 16 = .ok (.invokestatic 94, 3) := by decide +kernel
theorem dA_suitedRanks_19 : decode bA_suitedRanks 19 = .ok (.iconst 5, 1) := by decide +kernel
theorem dA_suitedRanks_20 : decode bA_suitedRanks 20 = .ok (.if_icmp .lt 5, 3) := by decide +kernel
theorem dA_suitedRanks_23 : decode bA_suitedRanks 23 = .ok (.lload_n 3, 1) := by decide +kernel
theorem dA_suitedRanks_24 : decode bA_suitedRanks 24 = .ok (.lreturn, 1) := by decide +kernel
theorem dA_suitedRanks_25 : decode bA_suitedRanks 25 = .ok (.iinc 2 1, 3) := by decide +kernel
theorem dA_suitedRanks_28 : decode bA_suitedRanks 28 = .ok (.goto (-26), 3) := by decide +kernel
theorem dA_suitedRanks_31 : decode bA_suitedRanks 31 = .ok (.lconst 0, 1) := by decide +kernel
theorem dA_suitedRanks_32 : decode bA_suitedRanks 32 = .ok (.lreturn, 1) := by decide +kernel
abbrev bA_straights : ByteArray := prog_1_method_40_code
def yA_straights : MethodName := ⟨"HandTables", "straights", "(J)J"⟩
theorem dA_straights_0 : decode bA_straights 0 = .ok (.lload_n 0, 1) := by decide +kernel
theorem dA_straights_1 : decode bA_straights 1 = .ok (.iconst 4, 1) := by decide +kernel
theorem dA_straights_2 : decode bA_straights 2 = .ok (.lshl, 1) := by decide +kernel
theorem dA_straights_3 : decode bA_straights 3 = .ok (.lload_n 0, 1) := by decide +kernel
theorem dA_straights_4 : decode bA_straights 4 = .ok (.bipush 48, 2) := by decide +kernel
theorem dA_straights_6 : decode bA_straights 6 = .ok (.lushr, 1) := by decide +kernel
theorem dA_straights_7 : decode bA_straights 7 = .ok (.lor, 1) := by decide +kernel
theorem dA_straights_8 : decode bA_straights 8 = .ok (.lstore_n 2, 1) := by decide +kernel
theorem dA_straights_9 : decode bA_straights 9 = .ok (.lload_n 2, 1) := by decide +kernel
theorem dA_straights_10 : decode bA_straights 10 = .ok (.lload_n 2, 1) := by decide +kernel
theorem dA_straights_11 : decode bA_straights 11 = .ok (.iconst 4, 1) := by decide +kernel
theorem dA_straights_12 : decode bA_straights 12 = .ok (.lushr, 1) := by decide +kernel
theorem dA_straights_13 : decode bA_straights 13 = .ok (.land, 1) := by decide +kernel
theorem dA_straights_14 : decode bA_straights 14 = .ok (.lload_n 2, 1) := by decide +kernel
theorem dA_straights_15 : decode bA_straights 15 = .ok (.bipush 8, 2) := by decide +kernel
theorem dA_straights_17 : decode bA_straights 17 = .ok (.lushr, 1) := by decide +kernel
theorem dA_straights_18 : decode bA_straights 18 = .ok (.land, 1) := by decide +kernel
theorem dA_straights_19 : decode bA_straights 19 = .ok (.lload_n 2, 1) := by decide +kernel
theorem dA_straights_20 : decode bA_straights 20 = .ok (.bipush 12, 2) := by decide +kernel
theorem dA_straights_22 : decode bA_straights 22 = .ok (.lushr, 1) := by decide +kernel
theorem dA_straights_23 : decode bA_straights 23 = .ok (.land, 1) := by decide +kernel
theorem dA_straights_24 : decode bA_straights 24 = .ok (.lload_n 2, 1) := by decide +kernel
theorem dA_straights_25 : decode bA_straights 25 = .ok (.bipush 16, 2) := by decide +kernel
theorem dA_straights_27 : decode bA_straights 27 = .ok (.lushr, 1) := by decide +kernel
theorem dA_straights_28 : decode bA_straights 28 = .ok (.land, 1) := by decide +kernel
theorem dA_straights_29 : decode bA_straights 29 = .ok (.lreturn, 1) := by decide +kernel
abbrev bA_highest : ByteArray := prog_1_method_41_code
def yA_highest : MethodName := ⟨"HandTables", "highest", "(J)I"⟩
theorem dA_highest_0 : decode bA_highest 0 = .ok (.lload_n 0, 1) := by decide +kernel
theorem dA_highest_1 : decode bA_highest 1 = .ok (.lload_n 0, 1) := by decide +kernel
theorem dA_highest_2 : decode bA_highest 2 = .ok (.iconst 4, 1) := by decide +kernel
theorem dA_highest_3 : decode bA_highest 3 = .ok (.lushr, 1) := by decide +kernel
theorem dA_highest_4 : decode bA_highest 4 = .ok (.lor, 1) := by decide +kernel
theorem dA_highest_5 : decode bA_highest 5 = .ok (.lstore_n 2, 1) := by decide +kernel
theorem dA_highest_6 : decode bA_highest 6 = .ok (.lload_n 2, 1) := by decide +kernel
theorem dA_highest_7 : decode bA_highest 7 = .ok (.lload_n 2, 1) := by decide +kernel
theorem dA_highest_8 : decode bA_highest 8 = .ok (.bipush 8, 2) := by decide +kernel
theorem dA_highest_10 : decode bA_highest 10 = .ok (.lushr, 1) := by decide +kernel
theorem dA_highest_11 : decode bA_highest 11 = .ok (.lor, 1) := by decide +kernel
theorem dA_highest_12 : decode bA_highest 12 = .ok (.lstore_n 2, 1) := by decide +kernel
theorem dA_highest_13 : decode bA_highest 13 = .ok (.lload_n 2, 1) := by decide +kernel
theorem dA_highest_14 : decode bA_highest 14 = .ok (.lload_n 2, 1) := by decide +kernel
theorem dA_highest_15 : decode bA_highest 15 = .ok (.bipush 16, 2) := by decide +kernel
theorem dA_highest_17 : decode bA_highest 17 = .ok (.lushr, 1) := by decide +kernel
theorem dA_highest_18 : decode bA_highest 18 = .ok (.lor, 1) := by decide +kernel
theorem dA_highest_19 : decode bA_highest 19 = .ok (.lstore_n 2, 1) := by decide +kernel
theorem dA_highest_20 : decode bA_highest 20 = .ok (.lload_n 2, 1) := by decide +kernel
theorem dA_highest_21 : decode bA_highest 21 = .ok (.lload_n 2, 1) := by decide +kernel
theorem dA_highest_22 : decode bA_highest 22 = .ok (.bipush 32, 2) := by decide +kernel
theorem dA_highest_24 : decode bA_highest 24 = .ok (.lushr, 1) := by decide +kernel
theorem dA_highest_25 : decode bA_highest 25 = .ok (.lor, 1) := by decide +kernel
theorem dA_highest_26 : decode bA_highest 26 = .ok (.lstore_n 2, 1) := by decide +kernel
theorem dA_highest_27 : decode bA_highest 27 = .ok (.lload_n 2, 1) := by decide +kernel
theorem dA_highest_28 : decode bA_highest 28 = .ok (.invokestatic 94, 3) := by decide +kernel
theorem dA_highest_31 : decode bA_highest 31 = .ok (.iconst 1, 1) := by decide +kernel
theorem dA_highest_32 : decode bA_highest 32 = .ok (.isub, 1) := by decide +kernel
theorem dA_highest_33 : decode bA_highest 33 = .ok (.ireturn, 1) := by decide +kernel
abbrev bA_without : ByteArray := prog_1_method_42_code
def yA_without : MethodName := ⟨"HandTables", "without", "(JI)J"⟩
theorem dA_without_0 : decode bA_without 0 = .ok (.lconst 1, 1) := by decide +kernel
theorem dA_without_1 : decode bA_without 1 = .ok (.iconst 4, 1) := by decide +kernel
theorem dA_without_2 : decode bA_without 2 = .ok (.iload_n 2, 1) := by decide +kernel
theorem dA_without_3 : decode bA_without 3 = .ok (.imul, 1) := by decide +kernel
theorem dA_without_4 : decode bA_without 4 = .ok (.lshl, 1) := by decide +kernel
theorem dA_without_5 : decode bA_without 5 = .ok (.lconst 1, 1) := by decide +kernel
theorem dA_without_6 : decode bA_without 6 = .ok (.lsub, 1) := by decide +kernel
theorem dA_without_7 : decode bA_without 7 = .ok (.lstore_n 3, 1) := by decide +kernel
theorem dA_without_8 : decode bA_without 8 = .ok (.lload_n 0, 1) := by decide +kernel
theorem dA_without_9 : decode bA_without 9 = .ok (.lload_n 3, 1) := by decide +kernel
theorem dA_without_10 : decode bA_without 10 = .ok (.land, 1) := by decide +kernel
theorem dA_without_11 : decode bA_without 11 = .ok (.lload_n 0, 1) := by decide +kernel
theorem dA_without_12 : decode bA_without 12 = .ok (.iconst 4, 1) := by decide +kernel
theorem dA_without_13 : decode bA_without 13 = .ok (.lushr, 1) := by decide +kernel
theorem dA_without_14 : decode bA_without 14 = .ok (.lload_n 3, 1) := by decide +kernel
theorem dA_without_15 : decode bA_without 15 = .ok (.ldc2_w 67, 3) := by decide +kernel
theorem dA_without_18 : decode bA_without 18 = .ok (.lxor, 1) := by decide +kernel
theorem dA_without_19 : decode bA_without 19 = .ok (.land, 1) := by decide +kernel
theorem dA_without_20 : decode bA_without 20 = .ok (.lor, 1) := by decide +kernel
theorem dA_without_21 : decode bA_without 21 = .ok (.lreturn, 1) := by decide +kernel
abbrev bA_placeOf : ByteArray := prog_1_method_44_code
def yA_placeOf : MethodName := ⟨"HandTables", "placeOf", "(JI)I"⟩
theorem dA_placeOf_0 : decode bA_placeOf 0 = .ok (.iconst 0, 1) := by decide +kernel
theorem dA_placeOf_1 : decode bA_placeOf 1 = .ok (.istore_n 3, 1) := by decide +kernel
theorem dA_placeOf_2 : decode bA_placeOf 2 = .ok (.lload_n 0, 1) := by decide +kernel
theorem dA_placeOf_3 : decode bA_placeOf 3 = .ok (.lstore 4, 2) := by decide +kernel
theorem dA_placeOf_5 : decode bA_placeOf 5 = .ok (.iload_n 2, 1) := by decide +kernel
theorem dA_placeOf_6 : decode bA_placeOf 6 = .ok (.istore 6, 2) := by decide +kernel
theorem dA_placeOf_8 : decode bA_placeOf 8 = .ok (.iload 6, 2) := by decide +kernel
theorem dA_placeOf_10 : decode bA_placeOf 10 = .ok (.iconst 1, 1) := by decide +kernel
theorem dA_placeOf_11 : decode bA_placeOf 11 = .ok (.if_icmp .lt 48, 3) := by decide +kernel
theorem dA_placeOf_14 : decode bA_placeOf 14 = .ok (.lload 4, 2) := by decide +kernel
theorem dA_placeOf_16 : decode bA_placeOf 16 = .ok (.lconst 0, 1) := by decide +kernel
theorem dA_placeOf_17 : decode bA_placeOf 17 = .ok (.lcmp, 1) := by decide +kernel
theorem dA_placeOf_18 : decode bA_placeOf 18 = .ok (.ifCond .eq 41, 3) := by decide +kernel
theorem dA_placeOf_21 : decode bA_placeOf 21 = .ok (.lload 4, 2) := by decide +kernel
theorem dA_placeOf_23 : decode bA_placeOf 23 = .ok (.invokestatic 151, 3) := by decide +kernel
theorem dA_placeOf_26 : decode bA_placeOf 26 = .ok (.istore 7, 2) := by decide +kernel
theorem dA_placeOf_28 : decode bA_placeOf 28 = .ok (.iload_n 3, 1) := by decide +kernel
theorem dA_placeOf_29 : decode bA_placeOf 29 = .ok (.iload 7, 2) := by decide +kernel
theorem dA_placeOf_31 : decode bA_placeOf 31 = .ok (.iload 6, 2) := by decide +kernel
theorem dA_placeOf_33 : decode bA_placeOf 33 = .ok (.invokestatic 171, 3) := by decide +kernel
theorem dA_placeOf_36 : decode bA_placeOf 36 = .ok (.iadd, 1) := by decide +kernel
theorem dA_placeOf_37 : decode bA_placeOf 37 = .ok (.istore_n 3, 1) := by decide +kernel
theorem dA_placeOf_38 : decode bA_placeOf 38 = .ok (.lload 4, 2) := by decide +kernel
theorem dA_placeOf_40 : decode bA_placeOf 40 = .ok (.lconst 1, 1) := by decide +kernel
theorem dA_placeOf_41 : decode bA_placeOf 41 = .ok (.iconst 4, 1) := by decide +kernel
theorem dA_placeOf_42 : decode bA_placeOf 42 = .ok (.iload 7, 2) := by decide +kernel
theorem dA_placeOf_44 : decode bA_placeOf 44 = .ok (.imul, 1) := by decide +kernel
theorem dA_placeOf_45 : decode bA_placeOf 45 = .ok (.lshl, 1) := by decide +kernel
theorem dA_placeOf_46 : decode bA_placeOf 46 = .ok (.ldc2_w 67, 3) := by decide +kernel
theorem dA_placeOf_49 : decode bA_placeOf 49 = .ok (.lxor, 1) := by decide +kernel
theorem dA_placeOf_50 : decode bA_placeOf 50 = .ok (.land, 1) := by decide +kernel
theorem dA_placeOf_51 : decode bA_placeOf 51 = .ok (.lstore 4, 2) := by decide +kernel
theorem dA_placeOf_53 : decode bA_placeOf 53 = .ok (.iinc 6 (-1), 3) := by decide +kernel
theorem dA_placeOf_56 : decode bA_placeOf 56 = .ok (.goto (-48), 3) := by decide +kernel
theorem dA_placeOf_59 : decode bA_placeOf 59 = .ok (.iload_n 3, 1) := by decide +kernel
theorem dA_placeOf_60 : decode bA_placeOf 60 = .ok (.ireturn, 1) := by decide +kernel
abbrev bA_choose : ByteArray := prog_1_method_46_code
def yA_choose : MethodName := ⟨"HandTables", "choose", "(II)I"⟩
theorem dA_choose_0 : decode bA_choose 0 = .ok (.getstatic 174, 3) := by decide +kernel
theorem dA_choose_3 : decode bA_choose 3 = .ok (.iload_n 1, 1) := by decide +kernel
theorem dA_choose_4 : decode bA_choose 4 = .ok (.iconst 1, 1) := by decide +kernel
theorem dA_choose_5 : decode bA_choose 5 = .ok (.isub, 1) := by decide +kernel
theorem dA_choose_6 : decode bA_choose 6 = .ok (.bipush 13, 2) := by decide +kernel
theorem dA_choose_8 : decode bA_choose 8 = .ok (.imul, 1) := by decide +kernel
theorem dA_choose_9 : decode bA_choose 9 = .ok (.iload_n 0, 1) := by decide +kernel
theorem dA_choose_10 : decode bA_choose 10 = .ok (.iadd, 1) := by decide +kernel
theorem dA_choose_11 : decode bA_choose 11 = .ok (.iaload, 1) := by decide +kernel
theorem dA_choose_12 : decode bA_choose 12 = .ok (.ireturn, 1) := by decide +kernel
abbrev bA_placeBesideStraights : ByteArray := prog_1_method_47_code
def yA_placeBesideStraights : MethodName := ⟨"HandTables", "placeBesideStraights", "(J)I"⟩
theorem dA_placeBesideStraights_0 : decode bA_placeBesideStraights 0 = .ok (.lload_n 0, 1) := by decide +kernel
theorem dA_placeBesideStraights_1 : decode bA_placeBesideStraights 1 = .ok (.iconst 5, 1) := by decide +kernel
theorem dA_placeBesideStraights_2 : decode bA_placeBesideStraights 2 = .ok (.invokestatic 160, 3) := by decide +kernel
theorem dA_placeBesideStraights_5 : decode bA_placeBesideStraights 5 = .ok (.istore_n 2, 1) := by decide +kernel
theorem dA_placeBesideStraights_6 : decode bA_placeBesideStraights 6 = .ok (.iconst 0, 1) := by decide +kernel
theorem dA_placeBesideStraights_7 : decode bA_placeBesideStraights 7 = .ok (.istore_n 3, 1) := by decide +kernel
theorem dA_placeBesideStraights_8 : decode bA_placeBesideStraights 8 = .ok (.getstatic 177, 3) := by decide +kernel
theorem dA_placeBesideStraights_11 : decode bA_placeBesideStraights 11 = .ok (.astore 4, 2) := by decide +kernel
theorem dA_placeBesideStraights_13 : decode bA_placeBesideStraights 13 = .ok (.aload 4, 2) := by decide +kernel
theorem dA_placeBesideStraights_15 : decode bA_placeBesideStraights 15 = .ok (.arraylength, 1) := by decide +kernel
theorem dA_placeBesideStraights_16 : decode bA_placeBesideStraights 16 = .ok (.istore 5, 2) := by decide +kernel
theorem dA_placeBesideStraights_18 : decode bA_placeBesideStraights 18 = .ok (.iconst 0, 1) := by decide +kernel
theorem dA_placeBesideStraights_19 : decode bA_placeBesideStraights 19 = .ok (.istore 6, 2) := by decide +kernel
theorem dA_placeBesideStraights_21 : decode bA_placeBesideStraights 21 = .ok (.iload 6, 2) := by decide +kernel
theorem dA_placeBesideStraights_23 : decode bA_placeBesideStraights 23 = .ok (.iload 5, 2) := by decide +kernel
theorem dA_placeBesideStraights_25 : decode bA_placeBesideStraights 25 = .ok (.if_icmp .ge 25, 3) := by decide +kernel
theorem dA_placeBesideStraights_28 : decode bA_placeBesideStraights 28 = .ok (.aload 4, 2) := by decide +kernel
theorem dA_placeBesideStraights_30 : decode bA_placeBesideStraights 30 = .ok (.iload 6, 2) := by decide +kernel
theorem dA_placeBesideStraights_32 : decode bA_placeBesideStraights 32 = .ok (.iaload, 1) := by decide +kernel
theorem dA_placeBesideStraights_33 : decode bA_placeBesideStraights 33 = .ok (.istore 7, 2) := by decide +kernel
theorem dA_placeBesideStraights_35 : decode bA_placeBesideStraights 35 = .ok (.iload 7, 2) := by decide +kernel
theorem dA_placeBesideStraights_37 : decode bA_placeBesideStraights 37 = .ok (.iload_n 2, 1) := by decide +kernel
theorem dA_placeBesideStraights_38 : decode bA_placeBesideStraights 38 = .ok (.if_icmp .ge 6, 3) := by decide +kernel
theorem dA_placeBesideStraights_41 : decode bA_placeBesideStraights 41 = .ok (.iinc 3 1, 3) := by decide +kernel
theorem dA_placeBesideStraights_44 : decode bA_placeBesideStraights 44 = .ok (.iinc 6 1, 3) := by decide +kernel
theorem dA_placeBesideStraights_47 : decode bA_placeBesideStraights 47 = .ok (.goto (-26), 3) := by decide +kernel
theorem dA_placeBesideStraights_50 : decode bA_placeBesideStraights 50 = .ok (.iload_n 2, 1) := by decide +kernel
theorem dA_placeBesideStraights_51 : decode bA_placeBesideStraights 51 = .ok (.iload_n 3, 1) := by decide +kernel
theorem dA_placeBesideStraights_52 : decode bA_placeBesideStraights 52 = .ok (.isub, 1) := by decide +kernel
theorem dA_placeBesideStraights_53 : decode bA_placeBesideStraights 53 = .ok (.ireturn, 1) := by decide +kernel
abbrev bA_pairsValue : ByteArray := prog_1_method_38_code
def yA_pairsValue : MethodName := ⟨"HandTables", "pairsValue", "(JJ)I"⟩
theorem dA_pairsValue_0 : decode bA_pairsValue 0 = .ok (.lload_n 2, 1) := by decide +kernel
theorem dA_pairsValue_1 : decode bA_pairsValue 1 = .ok (.invokestatic 151, 3) := by decide +kernel
theorem dA_pairsValue_4 : decode bA_pairsValue 4 = .ok (.istore 4, 2) := by decide +kernel
theorem dA_pairsValue_6 : decode bA_pairsValue 6 = .ok (.lload_n 0, 1) := by decide +kernel
theorem dA_pairsValue_7 : decode bA_pairsValue 7 = .ok (.iload 4, 2) := by decide +kernel
theorem dA_pairsValue_9 : decode bA_pairsValue 9 = .ok (.invokestatic 156, 3) := by decide +kernel
theorem dA_pairsValue_12 : decode bA_pairsValue 12 = .ok (.lstore 5, 2) := by decide +kernel
theorem dA_pairsValue_14 : decode bA_pairsValue 14 = .ok (.lload_n 2, 1) := by decide +kernel
theorem dA_pairsValue_15 : decode bA_pairsValue 15 = .ok (.iload 4, 2) := by decide +kernel
theorem dA_pairsValue_17 : decode bA_pairsValue 17 = .ok (.invokestatic 156, 3) := by decide +kernel
theorem dA_pairsValue_20 : decode bA_pairsValue 20 = .ok (.lstore 7, 2) := by decide +kernel
theorem dA_pairsValue_22 : decode bA_pairsValue 22 = .ok (.lload 7, 2) := by decide +kernel
theorem dA_pairsValue_24 : decode bA_pairsValue 24 = .ok (.lconst 0, 1) := by decide +kernel
theorem dA_pairsValue_25 : decode bA_pairsValue 25 = .ok (.lcmp, 1) := by decide +kernel
theorem dA_pairsValue_26 : decode bA_pairsValue 26 = .ok (.ifCond .ne 23, 3) := by decide +kernel
theorem dA_pairsValue_29 : decode bA_pairsValue 29 = .ok (.getstatic 40, 3) := by decide +kernel
theorem dA_pairsValue_32 : decode bA_pairsValue 32 = .ok (.iconst 1, 1) := by decide +kernel
theorem dA_pairsValue_33 : decode bA_pairsValue 33 = .ok (.iaload, 1) := by decide +kernel
theorem dA_pairsValue_34 : decode bA_pairsValue 34 = .ok (.iload 4, 2) := by decide +kernel
theorem dA_pairsValue_36 : decode bA_pairsValue 36 = .ok (.sipush 220, 3) := by decide +kernel
theorem dA_pairsValue_39 : decode bA_pairsValue 39 = .ok (.imul, 1) := by decide +kernel
theorem dA_pairsValue_40 : decode bA_pairsValue 40 = .ok (.iadd, 1) := by decide +kernel
theorem dA_pairsValue_41 : decode bA_pairsValue 41 = .ok (.lload 5, 2) := by decide +kernel
theorem dA_pairsValue_43 : decode bA_pairsValue 43 = .ok (.iconst 3, 1) := by decide +kernel
theorem dA_pairsValue_44 : decode bA_pairsValue 44 = .ok (.invokestatic 160, 3) := by decide +kernel
theorem dA_pairsValue_47 : decode bA_pairsValue 47 = .ok (.iadd, 1) := by decide +kernel
theorem dA_pairsValue_48 : decode bA_pairsValue 48 = .ok (.ireturn, 1) := by decide +kernel
theorem dA_pairsValue_49 : decode bA_pairsValue 49 = .ok (.lload 5, 2) := by decide +kernel
theorem dA_pairsValue_51 : decode bA_pairsValue 51 = .ok (.lload 7, 2) := by decide +kernel
theorem dA_pairsValue_53 : decode bA_pairsValue 53 = .ok (.invokestatic 151, 3) := by decide +kernel
theorem dA_pairsValue_56 : decode bA_pairsValue 56 = .ok (.invokestatic 156, 3) := by decide +kernel
theorem dA_pairsValue_59 : decode bA_pairsValue 59 = .ok (.iconst 1, 1) := by decide +kernel
theorem dA_pairsValue_60 : decode bA_pairsValue 60 = .ok (.invokestatic 160, 3) := by decide +kernel
theorem dA_pairsValue_63 : decode bA_pairsValue 63 = .ok (.istore 9, 2) := by decide +kernel
theorem dA_pairsValue_65 : decode bA_pairsValue 65 = .ok (.getstatic 40, 3) := by decide +kernel
theorem dA_pairsValue_68 : decode bA_pairsValue 68 = .ok (.iconst 2, 1) := by decide +kernel
theorem dA_pairsValue_69 : decode bA_pairsValue 69 = .ok (.iaload, 1) := by decide +kernel
theorem dA_pairsValue_70 : decode bA_pairsValue 70 = .ok (.lload_n 2, 1) := by decide +kernel
theorem dA_pairsValue_71 : decode bA_pairsValue 71 = .ok (.iconst 2, 1) := by decide +kernel
theorem dA_pairsValue_72 : decode bA_pairsValue 72 = .ok (.invokestatic 160, 3) := by decide +kernel
theorem dA_pairsValue_75 : decode bA_pairsValue 75 = .ok (.bipush 11, 2) := by decide +kernel
theorem dA_pairsValue_77 : decode bA_pairsValue 77 = .ok (.imul, 1) := by decide +kernel
theorem dA_pairsValue_78 : decode bA_pairsValue 78 = .ok (.iadd, 1) := by decide +kernel
theorem dA_pairsValue_79 : decode bA_pairsValue 79 = .ok (.iload 9, 2) := by decide +kernel
theorem dA_pairsValue_81 : decode bA_pairsValue 81 = .ok (.iadd, 1) := by decide +kernel
theorem dA_pairsValue_82 : decode bA_pairsValue 82 = .ok (.ireturn, 1) := by decide +kernel
abbrev bA_category : ByteArray := prog_1_method_3_code
def yA_category : MethodName := ⟨"HandTables", "category", "(J)I"⟩
theorem dA_category_0 : decode bA_category 0 = .ok (.lload_n 1, 1) := by decide +kernel
theorem dA_category_1 : decode bA_category 1 = .ok (.invokestatic 20, 3) := by decide +kernel
theorem dA_category_4 : decode bA_category 4 = .ok (.lload_n 1, 1) := by decide +kernel
theorem dA_category_5 : decode bA_category 5 = .ok (.invokestatic 24, 3) := by decide +kernel
theorem dA_category_8 : decode bA_category 8 = .ok (.invokestatic 28, 3) := by decide +kernel
theorem dA_category_11 : decode bA_category 11 = .ok (.ireturn, 1) := by decide +kernel
abbrev bA_categoryOf : ByteArray := prog_1_method_35_code
def yA_categoryOf : MethodName := ⟨"HandTables", "categoryOf", "(I)I"⟩
theorem dA_categoryOf_0 : decode bA_categoryOf 0 = .ok (.bipush 8, 2) := by decide +kernel
theorem dA_categoryOf_2 : decode bA_categoryOf 2 = .ok (.istore_n 1, 1) := by decide +kernel
theorem dA_categoryOf_3 : decode bA_categoryOf 3 = .ok (.iload_n 1, 1) := by decide +kernel
theorem dA_categoryOf_4 : decode bA_categoryOf 4 = .ok (.ifCond .le 18, 3) := by decide +kernel
theorem dA_categoryOf_7 : decode bA_categoryOf 7 = .ok (.iload_n 0, 1) := by decide +kernel
theorem dA_categoryOf_8 : decode bA_categoryOf 8 = .ok (.getstatic 40, 3) := by decide +kernel
theorem dA_categoryOf_11 : decode bA_categoryOf 11 = .ok (.iload_n 1, 1) := by decide +kernel
theorem dA_categoryOf_12 : decode bA_categoryOf 12 = .ok (.iaload, 1) := by decide +kernel
theorem dA_categoryOf_13 : decode bA_categoryOf 13 = .ok (.if_icmp .ge 9, 3) := by decide +kernel
theorem dA_categoryOf_16 : decode bA_categoryOf 16 = .ok (.iinc 1 (-1), 3) := by decide +kernel
theorem dA_categoryOf_19 : decode bA_categoryOf 19 = .ok (.goto (-16), 3) := by decide +kernel
theorem dA_categoryOf_22 : decode bA_categoryOf 22 = .ok (.iload_n 1, 1) := by decide +kernel
theorem dA_categoryOf_23 : decode bA_categoryOf 23 = .ok (.ireturn, 1) := by decide +kernel
abbrev bA_best : ByteArray := prog_1_method_4_code
def yA_best : MethodName := ⟨"HandTables", "best", "(J)J"⟩
theorem dA_best_0 : decode bA_best 0 = .ok (.lload_n 1, 1) := by decide +kernel
theorem dA_best_1 : decode bA_best 1 = .ok (.invokestatic 20, 3) := by decide +kernel
theorem dA_best_4 : decode bA_best 4 = .ok (.lload_n 1, 1) := by decide +kernel
theorem dA_best_5 : decode bA_best 5 = .ok (.invokestatic 24, 3) := by decide +kernel
theorem dA_best_8 : decode bA_best 8 = .ok (.istore_n 3, 1) := by decide +kernel
theorem dA_best_9 : decode bA_best 9 = .ok (.lload_n 1, 1) := by decide +kernel
theorem dA_best_10 : decode bA_best 10 = .ok (.lstore 4, 2) := by decide +kernel
theorem dA_best_12 : decode bA_best 12 = .ok (.iconst 0, 1) := by decide +kernel
theorem dA_best_13 : decode bA_best 13 = .ok (.istore 6, 2) := by decide +kernel
theorem dA_best_15 : decode bA_best 15 = .ok (.iload 6, 2) := by decide +kernel
theorem dA_best_17 : decode bA_best 17 = .ok (.sipush 128, 3) := by decide +kernel
theorem dA_best_20 : decode bA_best 20 = .ok (.if_icmp .ge 26, 3) := by decide +kernel
theorem dA_best_23 : decode bA_best 23 = .ok (.lload 4, 2) := by decide +kernel
theorem dA_best_25 : decode bA_best 25 = .ok (.iload_n 3, 1) := by decide +kernel
theorem dA_best_26 : decode bA_best 26 = .ok (.invokestatic 32, 3) := by decide +kernel
theorem dA_best_29 : decode bA_best 29 = .ok (.ifCond .ne 17, 3) := by decide +kernel
theorem dA_best_32 : decode bA_best 32 = .ok (.lload 4, 2) := by decide +kernel
theorem dA_best_34 : decode bA_best 34 = .ok (.lconst 1, 1) := by decide +kernel
theorem dA_best_35 : decode bA_best 35 = .ok (.lsub, 1) := by decide +kernel
theorem dA_best_36 : decode bA_best 36 = .ok (.lload_n 1, 1) := by decide +kernel
theorem dA_best_37 : decode bA_best 37 = .ok (.land, 1) := by decide +kernel
theorem dA_best_38 : decode bA_best 38 = .ok (.lstore 4, 2) := by decide +kernel
theorem dA_best_40 : decode bA_best 40 = .ok (.iinc 6 1, 3) := by decide +kernel
theorem dA_best_43 : decode bA_best 43 = .ok (.goto (-28), 3) := by decide +kernel
theorem dA_best_46 : decode bA_best 46 = .ok (.lload 4, 2) := by decide +kernel
theorem dA_best_48 : decode bA_best 48 = .ok (.lreturn, 1) := by decide +kernel
abbrev bA_isFiveWorth : ByteArray := prog_1_method_36_code
def yA_isFiveWorth : MethodName := ⟨"HandTables", "isFiveWorth", "(JI)Z"⟩
theorem dA_isFiveWorth_0 : decode bA_isFiveWorth 0 = .ok (.lload_n 0, 1) := by decide +kernel
theorem dA_isFiveWorth_1 : decode bA_isFiveWorth 1 = .ok (.invokestatic 94, 3) := by decide +kernel
theorem dA_isFiveWorth_4 : decode bA_isFiveWorth 4 = .ok (.iconst 5, 1) := by decide +kernel
theorem dA_isFiveWorth_5 : decode bA_isFiveWorth 5 = .ok (.if_icmp .ne 15, 3) := by decide +kernel
theorem dA_isFiveWorth_8 : decode bA_isFiveWorth 8 = .ok (.lload_n 0, 1) := by decide +kernel
theorem dA_isFiveWorth_9 : decode bA_isFiveWorth 9 = .ok (.invokestatic 24, 3) := by decide +kernel
theorem dA_isFiveWorth_12 : decode bA_isFiveWorth 12 = .ok (.iload_n 2, 1) := by decide +kernel
theorem dA_isFiveWorth_13 : decode bA_isFiveWorth 13 = .ok (.if_icmp .ne 7, 3) := by decide +kernel
theorem dA_isFiveWorth_16 : decode bA_isFiveWorth 16 = .ok (.iconst 1, 1) := by decide +kernel
theorem dA_isFiveWorth_17 : decode bA_isFiveWorth 17 = .ok (.goto 4, 3) := by decide +kernel
theorem dA_isFiveWorth_20 : decode bA_isFiveWorth 20 = .ok (.iconst 0, 1) := by decide +kernel
theorem dA_isFiveWorth_21 : decode bA_isFiveWorth 21 = .ok (.ireturn, 1) := by decide +kernel
abbrev bA_worth : ByteArray := prog_1_method_5_code
def yA_worth : MethodName := ⟨"HandTables", "worth", "(I)I"⟩
theorem dA_worth_0 : decode bA_worth 0 = .ok (.iload_n 1, 1) := by decide +kernel
theorem dA_worth_1 : decode bA_worth 1 = .ok (.invokestatic 36, 3) := by decide +kernel
theorem dA_worth_4 : decode bA_worth 4 = .ok (.iload_n 1, 1) := by decide +kernel
theorem dA_worth_5 : decode bA_worth 5 = .ok (.invokestatic 28, 3) := by decide +kernel
theorem dA_worth_8 : decode bA_worth 8 = .ok (.istore_n 2, 1) := by decide +kernel
theorem dA_worth_9 : decode bA_worth 9 = .ok (.iload_n 2, 1) := by decide +kernel
theorem dA_worth_10 : decode bA_worth 10 = .ok (.iload_n 2, 1) := by decide +kernel
theorem dA_worth_11 : decode bA_worth 11 = .ok (.iload_n 1, 1) := by decide +kernel
theorem dA_worth_12 : decode bA_worth 12 = .ok (.getstatic 40, 3) := by decide +kernel
theorem dA_worth_15 : decode bA_worth 15 = .ok (.iload_n 2, 1) := by decide +kernel
theorem dA_worth_16 : decode bA_worth 16 = .ok (.iaload, 1) := by decide +kernel
theorem dA_worth_17 : decode bA_worth 17 = .ok (.isub, 1) := by decide +kernel
theorem dA_worth_18 : decode bA_worth 18 = .ok (.invokestatic 43, 3) := by decide +kernel
theorem dA_worth_21 : decode bA_worth 21 = .ok (.iadd, 1) := by decide +kernel
theorem dA_worth_22 : decode bA_worth 22 = .ok (.ireturn, 1) := by decide +kernel
abbrev bA_requireValue : ByteArray := prog_1_method_22_code
def yA_requireValue : MethodName := ⟨"HandTables", "requireValue", "(I)V"⟩
theorem dA_requireValue_0 : decode bA_requireValue 0 = .ok (.iload_n 0, 1) := by decide +kernel
theorem dA_requireValue_1 : decode bA_requireValue 1 = .ok (.ifCond .lt 10, 3) := by decide +kernel
theorem dA_requireValue_4 : decode bA_requireValue 4 = .ok (.iload_n 0, 1) := by decide +kernel
theorem dA_requireValue_5 : decode bA_requireValue 5 = .ok (.sipush 7462, 3) := by decide +kernel
theorem dA_requireValue_8 : decode bA_requireValue 8 = .ok (.if_icmp .lt 13, 3) := by decide +kernel
theorem dA_requireValue_11 : decode bA_requireValue 11 = .ok (.new 50, 3) := by decide +kernel
theorem dA_requireValue_14 : decode bA_requireValue 14 = .ok (.dup, 1) := by decide +kernel
theorem dA_requireValue_15 : decode bA_requireValue 15 = .ok (.ldc 125, 2) := by decide +kernel
theorem dA_requireValue_17 : decode bA_requireValue 17 = .ok (.invokespecial 54, 3) := by decide +kernel
theorem dA_requireValue_20 : decode bA_requireValue 20 = .ok (.athrow, 1) := by decide +kernel
theorem dA_requireValue_21 : decode bA_requireValue 21 = .ok (.return_, 1) := by decide +kernel
abbrev bA_rowAt : ByteArray := prog_1_method_49_code
def yA_rowAt : MethodName := ⟨"HandTables", "rowAt", "(II)I"⟩
theorem dA_rowAt_0 : decode bA_rowAt 0 = .ok (.iload_n 0, 1) := by decide +kernel
theorem dA_rowAt_1 : decode bA_rowAt 1 = .ok (.tableswitch 114 1 8 #[96, 91, 75, 47, 114, 59, 59, 47], 47) := by decide +kernel
theorem dA_rowAt_48 : decode bA_rowAt 48 = .ok (.lconst 1, 1) := by decide +kernel
theorem dA_rowAt_49 : decode bA_rowAt 49 = .ok (.iconst 4, 1) := by decide +kernel
theorem dA_rowAt_50 : decode bA_rowAt 50 = .ok (.iload_n 1, 1) := by decide +kernel
theorem dA_rowAt_51 : decode bA_rowAt 51 = .ok (.iconst 3, 1) := by decide +kernel
theorem dA_rowAt_52 : decode bA_rowAt 52 = .ok (.iadd, 1) := by decide +kernel
theorem dA_rowAt_53 : decode bA_rowAt 53 = .ok (.imul, 1) := by decide +kernel
theorem dA_rowAt_54 : decode bA_rowAt 54 = .ok (.lshl, 1) := by decide +kernel
theorem dA_rowAt_55 : decode bA_rowAt 55 = .ok (.iconst 0, 1) := by decide +kernel
theorem dA_rowAt_56 : decode bA_rowAt 56 = .ok (.invokestatic 184, 3) := by decide +kernel
theorem dA_rowAt_59 : decode bA_rowAt 59 = .ok (.ireturn, 1) := by decide +kernel
theorem dA_rowAt_60 : decode bA_rowAt 60 = .ok (.iload_n 1, 1) := by decide +kernel
theorem dA_rowAt_61 : decode bA_rowAt 61 = .ok (.bipush 12, 2) := by decide +kernel
theorem dA_rowAt_63 : decode bA_rowAt 63 = .ok (.idiv, 1) := by decide +kernel
theorem dA_rowAt_64 : decode bA_rowAt 64 = .ok (.iload_n 1, 1) := by decide +kernel
theorem dA_rowAt_65 : decode bA_rowAt 65 = .ok (.bipush 12, 2) := by decide +kernel
theorem dA_rowAt_67 : decode bA_rowAt 67 = .ok (.irem, 1) := by decide +kernel
theorem dA_rowAt_68 : decode bA_rowAt 68 = .ok (.iconst 1, 1) := by decide +kernel
theorem dA_rowAt_69 : decode bA_rowAt 69 = .ok (.invokestatic 180, 3) := by decide +kernel
theorem dA_rowAt_72 : decode bA_rowAt 72 = .ok (.invokestatic 187, 3) := by decide +kernel
theorem dA_rowAt_75 : decode bA_rowAt 75 = .ok (.ireturn, 1) := by decide +kernel
theorem dA_rowAt_76 : decode bA_rowAt 76 = .ok (.iload_n 1, 1) := by decide +kernel
theorem dA_rowAt_77 : decode bA_rowAt 77 = .ok (.bipush 66, 2) := by decide +kernel
theorem dA_rowAt_79 : decode bA_rowAt 79 = .ok (.idiv, 1) := by decide +kernel
theorem dA_rowAt_80 : decode bA_rowAt 80 = .ok (.iload_n 1, 1) := by decide +kernel
theorem dA_rowAt_81 : decode bA_rowAt 81 = .ok (.bipush 66, 2) := by decide +kernel
theorem dA_rowAt_83 : decode bA_rowAt 83 = .ok (.irem, 1) := by decide +kernel
theorem dA_rowAt_84 : decode bA_rowAt 84 = .ok (.iconst 2, 1) := by decide +kernel
theorem dA_rowAt_85 : decode bA_rowAt 85 = .ok (.invokestatic 180, 3) := by decide +kernel
theorem dA_rowAt_88 : decode bA_rowAt 88 = .ok (.invokestatic 187, 3) := by decide +kernel
theorem dA_rowAt_91 : decode bA_rowAt 91 = .ok (.ireturn, 1) := by decide +kernel
theorem dA_rowAt_92 : decode bA_rowAt 92 = .ok (.iload_n 1, 1) := by decide +kernel
theorem dA_rowAt_93 : decode bA_rowAt 93 = .ok (.invokestatic 191, 3) := by decide +kernel
theorem dA_rowAt_96 : decode bA_rowAt 96 = .ok (.ireturn, 1) := by decide +kernel
theorem dA_rowAt_97 : decode bA_rowAt 97 = .ok (.iload_n 1, 1) := by decide +kernel
theorem dA_rowAt_98 : decode bA_rowAt 98 = .ok (.sipush 220, 3) := by decide +kernel
theorem dA_rowAt_101 : decode bA_rowAt 101 = .ok (.idiv, 1) := by decide +kernel
theorem dA_rowAt_102 : decode bA_rowAt 102 = .ok (.iload_n 1, 1) := by decide +kernel
theorem dA_rowAt_103 : decode bA_rowAt 103 = .ok (.sipush 220, 3) := by decide +kernel
theorem dA_rowAt_106 : decode bA_rowAt 106 = .ok (.irem, 1) := by decide +kernel
theorem dA_rowAt_107 : decode bA_rowAt 107 = .ok (.iconst 3, 1) := by decide +kernel
theorem dA_rowAt_108 : decode bA_rowAt 108 = .ok (.invokestatic 180, 3) := by decide +kernel
theorem dA_rowAt_111 : decode bA_rowAt 111 = .ok (.invokestatic 187, 3) := by decide +kernel
theorem dA_rowAt_114 : decode bA_rowAt 114 = .ok (.ireturn, 1) := by decide +kernel
theorem dA_rowAt_115 : decode bA_rowAt 115 = .ok (.iload_n 1, 1) := by decide +kernel
theorem dA_rowAt_116 : decode bA_rowAt 116 = .ok (.invokestatic 194, 3) := by decide +kernel
theorem dA_rowAt_119 : decode bA_rowAt 119 = .ok (.iconst 0, 1) := by decide +kernel
theorem dA_rowAt_120 : decode bA_rowAt 120 = .ok (.invokestatic 184, 3) := by decide +kernel
theorem dA_rowAt_123 : decode bA_rowAt 123 = .ok (.ireturn, 1) := by decide +kernel
abbrev bA_written : ByteArray := prog_1_method_52_code
def yA_written : MethodName := ⟨"HandTables", "written", "(JI)I"⟩
theorem dA_written_0 : decode bA_written 0 = .ok (.iconst 0, 1) := by decide +kernel
theorem dA_written_1 : decode bA_written 1 = .ok (.istore_n 3, 1) := by decide +kernel
theorem dA_written_2 : decode bA_written 2 = .ok (.iconst 4, 1) := by decide +kernel
theorem dA_written_3 : decode bA_written 3 = .ok (.iload_n 2, 1) := by decide +kernel
theorem dA_written_4 : decode bA_written 4 = .ok (.iconst 1, 1) := by decide +kernel
theorem dA_written_5 : decode bA_written 5 = .ok (.iadd, 1) := by decide +kernel
theorem dA_written_6 : decode bA_written 6 = .ok (.imul, 1) := by decide +kernel
theorem dA_written_7 : decode bA_written 7 = .ok (.istore 4, 2) := by decide +kernel
theorem dA_written_9 : decode bA_written 9 = .ok (.bipush 12, 2) := by decide +kernel
theorem dA_written_11 : decode bA_written 11 = .ok (.istore 5, 2) := by decide +kernel
theorem dA_written_13 : decode bA_written 13 = .ok (.iload 5, 2) := by decide +kernel
theorem dA_written_15 : decode bA_written 15 = .ok (.ifCond .lt 35, 3) := by decide +kernel
theorem dA_written_18 : decode bA_written 18 = .ok (.lload_n 0, 1) := by decide +kernel
theorem dA_written_19 : decode bA_written 19 = .ok (.lconst 1, 1) := by decide +kernel
theorem dA_written_20 : decode bA_written 20 = .ok (.iconst 4, 1) := by decide +kernel
theorem dA_written_21 : decode bA_written 21 = .ok (.iload 5, 2) := by decide +kernel
theorem dA_written_23 : decode bA_written 23 = .ok (.imul, 1) := by decide +kernel
theorem dA_written_24 : decode bA_written 24 = .ok (.lshl, 1) := by decide +kernel
theorem dA_written_25 : decode bA_written 25 = .ok (.land, 1) := by decide +kernel
theorem dA_written_26 : decode bA_written 26 = .ok (.lconst 0, 1) := by decide +kernel
theorem dA_written_27 : decode bA_written 27 = .ok (.lcmp, 1) := by decide +kernel
theorem dA_written_28 : decode bA_written 28 = .ok (.ifCond .eq 16, 3) := by decide +kernel
theorem dA_written_31 : decode bA_written 31 = .ok (.iload_n 3, 1) := by decide +kernel
theorem dA_written_32 : decode bA_written 32 = .ok (.iload 5, 2) := by decide +kernel
theorem dA_written_34 : decode bA_written 34 = .ok (.iconst 1, 1) := by decide +kernel
theorem dA_written_35 : decode bA_written 35 = .ok (.iadd, 1) := by decide +kernel
theorem dA_written_36 : decode bA_written 36 = .ok (.iload 4, 2) := by decide +kernel
theorem dA_written_38 : decode bA_written 38 = .ok (.ishl, 1) := by decide +kernel
theorem dA_written_39 : decode bA_written 39 = .ok (.iadd, 1) := by decide +kernel
theorem dA_written_40 : decode bA_written 40 = .ok (.istore_n 3, 1) := by decide +kernel
theorem dA_written_41 : decode bA_written 41 = .ok (.iinc 4 4, 3) := by decide +kernel
theorem dA_written_44 : decode bA_written 44 = .ok (.iinc 5 (-1), 3) := by decide +kernel
theorem dA_written_47 : decode bA_written 47 = .ok (.goto (-34), 3) := by decide +kernel
theorem dA_written_50 : decode bA_written 50 = .ok (.iload_n 3, 1) := by decide +kernel
theorem dA_written_51 : decode bA_written 51 = .ok (.ireturn, 1) := by decide +kernel
abbrev bA_ranksAt : ByteArray := prog_1_method_45_code
def yA_ranksAt : MethodName := ⟨"HandTables", "ranksAt", "(II)J"⟩
theorem dA_ranksAt_0 : decode bA_ranksAt 0 = .ok (.lconst 0, 1) := by decide +kernel
theorem dA_ranksAt_1 : decode bA_ranksAt 1 = .ok (.lstore_n 2, 1) := by decide +kernel
theorem dA_ranksAt_2 : decode bA_ranksAt 2 = .ok (.iload_n 0, 1) := by decide +kernel
theorem dA_ranksAt_3 : decode bA_ranksAt 3 = .ok (.istore 4, 2) := by decide +kernel
theorem dA_ranksAt_5 : decode bA_ranksAt 5 = .ok (.iload_n 1, 1) := by decide +kernel
theorem dA_ranksAt_6 : decode bA_ranksAt 6 = .ok (.istore 5, 2) := by decide +kernel
theorem dA_ranksAt_8 : decode bA_ranksAt 8 = .ok (.bipush 12, 2) := by decide +kernel
theorem dA_ranksAt_10 : decode bA_ranksAt 10 = .ok (.istore 6, 2) := by decide +kernel
theorem dA_ranksAt_12 : decode bA_ranksAt 12 = .ok (.iload 6, 2) := by decide +kernel
theorem dA_ranksAt_14 : decode bA_ranksAt 14 = .ok (.ifCond .lt 50, 3) := by decide +kernel
theorem dA_ranksAt_17 : decode bA_ranksAt 17 = .ok (.iload 5, 2) := by decide +kernel
theorem dA_ranksAt_19 : decode bA_ranksAt 19 = .ok (.iconst 1, 1) := by decide +kernel
theorem dA_ranksAt_20 : decode bA_ranksAt 20 = .ok (.if_icmp .lt 44, 3) := by decide +kernel
theorem dA_ranksAt_23 : decode bA_ranksAt 23 = .ok (.iload 6, 2) := by decide +kernel
theorem dA_ranksAt_25 : decode bA_ranksAt 25 = .ok (.iload 5, 2) := by decide +kernel
theorem dA_ranksAt_27 : decode bA_ranksAt 27 = .ok (.invokestatic 171, 3) := by decide +kernel
theorem dA_ranksAt_30 : decode bA_ranksAt 30 = .ok (.istore 7, 2) := by decide +kernel
theorem dA_ranksAt_32 : decode bA_ranksAt 32 = .ok (.iload 7, 2) := by decide +kernel
theorem dA_ranksAt_34 : decode bA_ranksAt 34 = .ok (.iload 4, 2) := by decide +kernel
theorem dA_ranksAt_36 : decode bA_ranksAt 36 = .ok (.if_icmp .gt 22, 3) := by decide +kernel
theorem dA_ranksAt_39 : decode bA_ranksAt 39 = .ok (.lload_n 2, 1) := by decide +kernel
theorem dA_ranksAt_40 : decode bA_ranksAt 40 = .ok (.lconst 1, 1) := by decide +kernel
theorem dA_ranksAt_41 : decode bA_ranksAt 41 = .ok (.iconst 4, 1) := by decide +kernel
theorem dA_ranksAt_42 : decode bA_ranksAt 42 = .ok (.iload 6, 2) := by decide +kernel
theorem dA_ranksAt_44 : decode bA_ranksAt 44 = .ok (.imul, 1) := by decide +kernel
theorem dA_ranksAt_45 : decode bA_ranksAt 45 = .ok (.lshl, 1) := by decide +kernel
theorem dA_ranksAt_46 : decode bA_ranksAt 46 = .ok (.lor, 1) := by decide +kernel
theorem dA_ranksAt_47 : decode bA_ranksAt 47 = .ok (.lstore_n 2, 1) := by decide +kernel
theorem dA_ranksAt_48 : decode bA_ranksAt 48 = .ok (.iload 4, 2) := by decide +kernel
theorem dA_ranksAt_50 : decode bA_ranksAt 50 = .ok (.iload 7, 2) := by decide +kernel
theorem dA_ranksAt_52 : decode bA_ranksAt 52 = .ok (.isub, 1) := by decide +kernel
theorem dA_ranksAt_53 : decode bA_ranksAt 53 = .ok (.istore 4, 2) := by decide +kernel
theorem dA_ranksAt_55 : decode bA_ranksAt 55 = .ok (.iinc 5 (-1), 3) := by decide +kernel
theorem dA_ranksAt_58 : decode bA_ranksAt 58 = .ok (.iinc 6 (-1), 3) := by decide +kernel
theorem dA_ranksAt_61 : decode bA_ranksAt 61 = .ok (.goto (-49), 3) := by decide +kernel
theorem dA_ranksAt_64 : decode bA_ranksAt 64 = .ok (.lload_n 2, 1) := by decide +kernel
theorem dA_ranksAt_65 : decode bA_ranksAt 65 = .ok (.lreturn, 1) := by decide +kernel
abbrev bA_rowBehind : ByteArray := prog_1_method_50_code
def yA_rowBehind : MethodName := ⟨"HandTables", "rowBehind", "(IJ)I"⟩
theorem dA_rowBehind_0 : decode bA_rowBehind 0 = .ok (.lconst 1, 1) := by decide +kernel
theorem dA_rowBehind_1 : decode bA_rowBehind 1 = .ok (.iconst 4, 1) := by decide +kernel
theorem dA_rowBehind_2 : decode bA_rowBehind 2 = .ok (.iload_n 0, 1) := by decide +kernel
theorem dA_rowBehind_3 : decode bA_rowBehind 3 = .ok (.imul, 1) := by decide +kernel
theorem dA_rowBehind_4 : decode bA_rowBehind 4 = .ok (.lshl, 1) := by decide +kernel
theorem dA_rowBehind_5 : decode bA_rowBehind 5 = .ok (.iconst 0, 1) := by decide +kernel
theorem dA_rowBehind_6 : decode bA_rowBehind 6 = .ok (.invokestatic 184, 3) := by decide +kernel
theorem dA_rowBehind_9 : decode bA_rowBehind 9 = .ok (.lload_n 1, 1) := by decide +kernel
theorem dA_rowBehind_10 : decode bA_rowBehind 10 = .ok (.iload_n 0, 1) := by decide +kernel
theorem dA_rowBehind_11 : decode bA_rowBehind 11 = .ok (.invokestatic 198, 3) := by decide +kernel
theorem dA_rowBehind_14 : decode bA_rowBehind 14 = .ok (.iconst 1, 1) := by decide +kernel
theorem dA_rowBehind_15 : decode bA_rowBehind 15 = .ok (.invokestatic 184, 3) := by decide +kernel
theorem dA_rowBehind_18 : decode bA_rowBehind 18 = .ok (.iadd, 1) := by decide +kernel
theorem dA_rowBehind_19 : decode bA_rowBehind 19 = .ok (.ireturn, 1) := by decide +kernel
abbrev bA_beside : ByteArray := prog_1_method_43_code
def yA_beside : MethodName := ⟨"HandTables", "beside", "(JI)J"⟩
theorem dA_beside_0 : decode bA_beside 0 = .ok (.lconst 1, 1) := by decide +kernel
theorem dA_beside_1 : decode bA_beside 1 = .ok (.iconst 4, 1) := by decide +kernel
theorem dA_beside_2 : decode bA_beside 2 = .ok (.iload_n 2, 1) := by decide +kernel
theorem dA_beside_3 : decode bA_beside 3 = .ok (.imul, 1) := by decide +kernel
theorem dA_beside_4 : decode bA_beside 4 = .ok (.lshl, 1) := by decide +kernel
theorem dA_beside_5 : decode bA_beside 5 = .ok (.lconst 1, 1) := by decide +kernel
theorem dA_beside_6 : decode bA_beside 6 = .ok (.lsub, 1) := by decide +kernel
theorem dA_beside_7 : decode bA_beside 7 = .ok (.lstore_n 3, 1) := by decide +kernel
theorem dA_beside_8 : decode bA_beside 8 = .ok (.lload_n 0, 1) := by decide +kernel
theorem dA_beside_9 : decode bA_beside 9 = .ok (.lload_n 3, 1) := by decide +kernel
theorem dA_beside_10 : decode bA_beside 10 = .ok (.land, 1) := by decide +kernel
theorem dA_beside_11 : decode bA_beside 11 = .ok (.lload_n 0, 1) := by decide +kernel
theorem dA_beside_12 : decode bA_beside 12 = .ok (.lload_n 3, 1) := by decide +kernel
theorem dA_beside_13 : decode bA_beside 13 = .ok (.ldc2_w 67, 3) := by decide +kernel
theorem dA_beside_16 : decode bA_beside 16 = .ok (.lxor, 1) := by decide +kernel
theorem dA_beside_17 : decode bA_beside 17 = .ok (.land, 1) := by decide +kernel
theorem dA_beside_18 : decode bA_beside 18 = .ok (.iconst 4, 1) := by decide +kernel
theorem dA_beside_19 : decode bA_beside 19 = .ok (.lshl, 1) := by decide +kernel
theorem dA_beside_20 : decode bA_beside 20 = .ok (.lor, 1) := by decide +kernel
theorem dA_beside_21 : decode bA_beside 21 = .ok (.lreturn, 1) := by decide +kernel
abbrev bA_rowOfPairs : ByteArray := prog_1_method_51_code
def yA_rowOfPairs : MethodName := ⟨"HandTables", "rowOfPairs", "(I)I"⟩
theorem dA_rowOfPairs_0 : decode bA_rowOfPairs 0 = .ok (.iload_n 0, 1) := by decide +kernel
theorem dA_rowOfPairs_1 : decode bA_rowOfPairs 1 = .ok (.bipush 11, 2) := by decide +kernel
theorem dA_rowOfPairs_3 : decode bA_rowOfPairs 3 = .ok (.idiv, 1) := by decide +kernel
theorem dA_rowOfPairs_4 : decode bA_rowOfPairs 4 = .ok (.iconst 2, 1) := by decide +kernel
theorem dA_rowOfPairs_5 : decode bA_rowOfPairs 5 = .ok (.invokestatic 180, 3) := by decide +kernel
theorem dA_rowOfPairs_8 : decode bA_rowOfPairs 8 = .ok (.lstore_n 1, 1) := by decide +kernel
theorem dA_rowOfPairs_9 : decode bA_rowOfPairs 9 = .ok (.lload_n 1, 1) := by decide +kernel
theorem dA_rowOfPairs_10 : decode bA_rowOfPairs 10 = .ok (.invokestatic 151, 3) := by decide +kernel
theorem dA_rowOfPairs_13 : decode bA_rowOfPairs 13 = .ok (.istore_n 3, 1) := by decide +kernel
theorem dA_rowOfPairs_14 : decode bA_rowOfPairs 14 = .ok (.lload_n 1, 1) := by decide +kernel
theorem dA_rowOfPairs_15 : decode bA_rowOfPairs 15 = .ok (.iload_n 3, 1) := by decide +kernel
theorem dA_rowOfPairs_16 : decode bA_rowOfPairs 16 = .ok (.invokestatic 156, 3) := by decide +kernel
theorem dA_rowOfPairs_19 : decode bA_rowOfPairs 19 = .ok (.invokestatic 151, 3) := by decide +kernel
theorem dA_rowOfPairs_22 : decode bA_rowOfPairs 22 = .ok (.istore 4, 2) := by decide +kernel
theorem dA_rowOfPairs_24 : decode bA_rowOfPairs 24 = .ok (.iload_n 0, 1) := by decide +kernel
theorem dA_rowOfPairs_25 : decode bA_rowOfPairs 25 = .ok (.bipush 11, 2) := by decide +kernel
theorem dA_rowOfPairs_27 : decode bA_rowOfPairs 27 = .ok (.irem, 1) := by decide +kernel
theorem dA_rowOfPairs_28 : decode bA_rowOfPairs 28 = .ok (.iconst 1, 1) := by decide +kernel
theorem dA_rowOfPairs_29 : decode bA_rowOfPairs 29 = .ok (.invokestatic 180, 3) := by decide +kernel
theorem dA_rowOfPairs_32 : decode bA_rowOfPairs 32 = .ok (.iload 4, 2) := by decide +kernel
theorem dA_rowOfPairs_34 : decode bA_rowOfPairs 34 = .ok (.invokestatic 198, 3) := by decide +kernel
theorem dA_rowOfPairs_37 : decode bA_rowOfPairs 37 = .ok (.iload_n 3, 1) := by decide +kernel
theorem dA_rowOfPairs_38 : decode bA_rowOfPairs 38 = .ok (.invokestatic 198, 3) := by decide +kernel
theorem dA_rowOfPairs_41 : decode bA_rowOfPairs 41 = .ok (.lstore 5, 2) := by decide +kernel
theorem dA_rowOfPairs_43 : decode bA_rowOfPairs 43 = .ok (.lload_n 1, 1) := by decide +kernel
theorem dA_rowOfPairs_44 : decode bA_rowOfPairs 44 = .ok (.iconst 0, 1) := by decide +kernel
theorem dA_rowOfPairs_45 : decode bA_rowOfPairs 45 = .ok (.invokestatic 184, 3) := by decide +kernel
theorem dA_rowOfPairs_48 : decode bA_rowOfPairs 48 = .ok (.lload 5, 2) := by decide +kernel
theorem dA_rowOfPairs_50 : decode bA_rowOfPairs 50 = .ok (.iconst 2, 1) := by decide +kernel
theorem dA_rowOfPairs_51 : decode bA_rowOfPairs 51 = .ok (.invokestatic 184, 3) := by decide +kernel
theorem dA_rowOfPairs_54 : decode bA_rowOfPairs 54 = .ok (.iadd, 1) := by decide +kernel
theorem dA_rowOfPairs_55 : decode bA_rowOfPairs 55 = .ok (.ireturn, 1) := by decide +kernel
abbrev bA_ranksBesideStraights : ByteArray := prog_1_method_48_code
def yA_ranksBesideStraights : MethodName := ⟨"HandTables", "ranksBesideStraights", "(I)J"⟩
theorem dA_ranksBesideStraights_0 : decode bA_ranksBesideStraights 0 = .ok (.iload_n 0, 1) := by decide +kernel
theorem dA_ranksBesideStraights_1 : decode bA_ranksBesideStraights 1 = .ok (.istore_n 1, 1) := by decide +kernel
theorem dA_ranksBesideStraights_2 : decode bA_ranksBesideStraights 2 = .ok (.getstatic 177, 3) := by decide +kernel
theorem dA_ranksBesideStraights_5 : decode bA_ranksBesideStraights 5 = .ok (.astore_n 2, 1) := by decide +kernel
theorem dA_ranksBesideStraights_6 : decode bA_ranksBesideStraights 6 = .ok (.aload_n 2, 1) := by decide +kernel
theorem dA_ranksBesideStraights_7 : decode bA_ranksBesideStraights 7 = .ok (.arraylength, 1) := by decide +kernel
theorem dA_ranksBesideStraights_8 : decode bA_ranksBesideStraights 8 = .ok (.istore_n 3, 1) := by decide +kernel
theorem dA_ranksBesideStraights_9 : decode bA_ranksBesideStraights 9 = .ok (.iconst 0, 1) := by decide +kernel
theorem dA_ranksBesideStraights_10 : decode bA_ranksBesideStraights 10 = .ok (.istore 4, 2) := by decide +kernel
theorem dA_ranksBesideStraights_12 : decode bA_ranksBesideStraights 12 = .ok (.iload 4, 2) := by decide +kernel
theorem dA_ranksBesideStraights_14 : decode bA_ranksBesideStraights 14 = .ok (.iload_n 3, 1) := by decide +kernel
theorem dA_ranksBesideStraights_15 : decode bA_ranksBesideStraights 15 = .ok (.if_icmp .ge 24, 3) := by decide +kernel
theorem dA_ranksBesideStraights_18 : decode bA_ranksBesideStraights 18 = .ok (.aload_n 2, 1) := by decide +kernel
theorem dA_ranksBesideStraights_19 : decode bA_ranksBesideStraights 19 = .ok (.iload 4, 2) := by decide +kernel
theorem dA_ranksBesideStraights_21 : decode bA_ranksBesideStraights 21 = .ok (.iaload, 1) := by decide +kernel
theorem dA_ranksBesideStraights_22 : decode bA_ranksBesideStraights 22 = .ok (.istore 5, 2) := by decide +kernel
theorem dA_ranksBesideStraights_24 : decode bA_ranksBesideStraights 24 = .ok (.iload 5, 2) := by decide +kernel
theorem dA_ranksBesideStraights_26 : decode bA_ranksBesideStraights 26 = .ok (.iload_n 1, 1) := by decide +kernel
theorem dA_ranksBesideStraights_27 : decode bA_ranksBesideStraights 27 = .ok (.if_icmp .gt 6, 3) := by decide +kernel
theorem dA_ranksBesideStraights_30 : decode bA_ranksBesideStraights 30 = .ok (.iinc 1 1, 3) := by decide +kernel
theorem dA_ranksBesideStraights_33 : decode bA_ranksBesideStraights 33 = .ok (.iinc 4 1, 3) := by decide +kernel
theorem dA_ranksBesideStraights_36 : decode bA_ranksBesideStraights 36 = .ok (.goto (-24), 3) := by decide +kernel
theorem dA_ranksBesideStraights_39 : decode bA_ranksBesideStraights 39 = .ok (.iload_n 1, 1) := by decide +kernel
theorem dA_ranksBesideStraights_40 : decode bA_ranksBesideStraights 40 = .ok (.iconst 5, 1) := by decide +kernel
theorem dA_ranksBesideStraights_41 : decode bA_ranksBesideStraights 41 = .ok (.invokestatic 180, 3) := by decide +kernel
theorem dA_ranksBesideStraights_44 : decode bA_ranksBesideStraights 44 = .ok (.lreturn, 1) := by decide +kernel
abbrev bA_sets : ByteArray := prog_1_method_6_code
def yA_sets : MethodName := ⟨"HandTables", "sets", "(I)I"⟩
theorem dA_sets_0 : decode bA_sets 0 = .ok (.iload_n 1, 1) := by decide +kernel
theorem dA_sets_1 : decode bA_sets 1 = .ok (.invokestatic 36, 3) := by decide +kernel
theorem dA_sets_4 : decode bA_sets 4 = .ok (.getstatic 47, 3) := by decide +kernel
theorem dA_sets_7 : decode bA_sets 7 = .ok (.iload_n 1, 1) := by decide +kernel
theorem dA_sets_8 : decode bA_sets 8 = .ok (.invokestatic 28, 3) := by decide +kernel
theorem dA_sets_11 : decode bA_sets 11 = .ok (.iaload, 1) := by decide +kernel
theorem dA_sets_12 : decode bA_sets 12 = .ok (.ireturn, 1) := by decide +kernel
abbrev bA_first : ByteArray := prog_1_method_7_code
def yA_first : MethodName := ⟨"HandTables", "first", "(I)I"⟩
theorem dA_first_0 : decode bA_first 0 = .ok (.iload_n 1, 1) := by decide +kernel
theorem dA_first_1 : decode bA_first 1 = .ok (.ifCond .lt 9, 3) := by decide +kernel
theorem dA_first_4 : decode bA_first 4 = .ok (.iload_n 1, 1) := by decide +kernel
theorem dA_first_5 : decode bA_first 5 = .ok (.bipush 9, 2) := by decide +kernel
theorem dA_first_7 : decode bA_first 7 = .ok (.if_icmp .le 13, 3) := by decide +kernel
theorem dA_first_10 : decode bA_first 10 = .ok (.new 50, 3) := by decide +kernel
theorem dA_first_13 : decode bA_first 13 = .ok (.dup, 1) := by decide +kernel
theorem dA_first_14 : decode bA_first 14 = .ok (.ldc 52, 2) := by decide +kernel
theorem dA_first_16 : decode bA_first 16 = .ok (.invokespecial 54, 3) := by decide +kernel
theorem dA_first_19 : decode bA_first 19 = .ok (.athrow, 1) := by decide +kernel
theorem dA_first_20 : decode bA_first 20 = .ok (.getstatic 40, 3) := by decide +kernel
theorem dA_first_23 : decode bA_first 23 = .ok (.iload_n 1, 1) := by decide +kernel
theorem dA_first_24 : decode bA_first 24 = .ok (.iaload, 1) := by decide +kernel
theorem dA_first_25 : decode bA_first 25 = .ok (.ireturn, 1) := by decide +kernel
abbrev bA_seat : ByteArray := prog_1_method_8_code
def yA_seat : MethodName := ⟨"HandTables", "seat", "(III)Z"⟩
theorem dA_seat_0 : decode bA_seat 0 = .ok (.iload_n 1, 1) := by decide +kernel
theorem dA_seat_1 : decode bA_seat 1 = .ok (.invokestatic 57, 3) := by decide +kernel
theorem dA_seat_4 : decode bA_seat 4 = .ok (.iload_n 2, 1) := by decide +kernel
theorem dA_seat_5 : decode bA_seat 5 = .ok (.invokestatic 60, 3) := by decide +kernel
theorem dA_seat_8 : decode bA_seat 8 = .ok (.iload_n 3, 1) := by decide +kernel
theorem dA_seat_9 : decode bA_seat 9 = .ok (.invokestatic 60, 3) := by decide +kernel
theorem dA_seat_12 : decode bA_seat 12 = .ok (.lconst 1, 1) := by decide +kernel
theorem dA_seat_13 : decode bA_seat 13 = .ok (.iload_n 2, 1) := by decide +kernel
theorem dA_seat_14 : decode bA_seat 14 = .ok (.lshl, 1) := by decide +kernel
theorem dA_seat_15 : decode bA_seat 15 = .ok (.lconst 1, 1) := by decide +kernel
theorem dA_seat_16 : decode bA_seat 16 = .ok (.iload_n 3, 1) := by decide +kernel
theorem dA_seat_17 : decode bA_seat 17 = .ok (.lshl, 1) := by decide +kernel
theorem dA_seat_18 : decode bA_seat 18 = .ok (.lor, 1) := by decide +kernel
theorem dA_seat_19 : decode bA_seat 19 = .ok (.lstore 4, 2) := by decide +kernel
theorem dA_seat_21 : decode bA_seat 21 = .ok (.aload_n 0, 1) := by decide +kernel
theorem dA_seat_22 : decode bA_seat 22 = .ok (.invokevirtual 63, 3) := by decide +kernel
theorem dA_seat_25 : decode bA_seat 25 = .ok (.aload_n 0, 1) := by decide +kernel
theorem dA_seat_26 : decode bA_seat 26 = .ok (.getfield 9, 3) := by decide +kernel
theorem dA_seat_29 : decode bA_seat 29 = .ok (.iload_n 1, 1) := by decide +kernel
theorem dA_seat_30 : decode bA_seat 30 = .ok (.laload, 1) := by decide +kernel
theorem dA_seat_31 : decode bA_seat 31 = .ok (.ldc2_w 67, 3) := by decide +kernel
theorem dA_seat_34 : decode bA_seat 34 = .ok (.lxor, 1) := by decide +kernel
theorem dA_seat_35 : decode bA_seat 35 = .ok (.land, 1) := by decide +kernel
theorem dA_seat_36 : decode bA_seat 36 = .ok (.lstore 6, 2) := by decide +kernel
theorem dA_seat_38 : decode bA_seat 38 = .ok (.iload_n 2, 1) := by decide +kernel
theorem dA_seat_39 : decode bA_seat 39 = .ok (.iload_n 3, 1) := by decide +kernel
theorem dA_seat_40 : decode bA_seat 40 = .ok (.if_icmp .eq 13, 3) := by decide +kernel
theorem dA_seat_43 : decode bA_seat 43 = .ok (.lload 4, 2) := by decide +kernel
theorem dA_seat_45 : decode bA_seat 45 = .ok (.lload 6, 2) := by decide +kernel
theorem dA_seat_47 : decode bA_seat 47 = .ok (.land, 1) := by decide +kernel
theorem dA_seat_48 : decode bA_seat 48 = .ok (.lconst 0, 1) := by decide +kernel
theorem dA_seat_49 : decode bA_seat 49 = .ok (.lcmp, 1) := by decide +kernel
theorem dA_seat_50 : decode bA_seat 50 = .ok (.ifCond .eq 5, 3) := by decide +kernel
theorem dA_seat_53 : decode bA_seat 53 = .ok (.iconst 0, 1) := by decide +kernel
theorem dA_seat_54 : decode bA_seat 54 = .ok (.ireturn, 1) := by decide +kernel
theorem dA_seat_55 : decode bA_seat 55 = .ok (.aload_n 0, 1) := by decide +kernel
theorem dA_seat_56 : decode bA_seat 56 = .ok (.getfield 9, 3) := by decide +kernel
theorem dA_seat_59 : decode bA_seat 59 = .ok (.iload_n 1, 1) := by decide +kernel
theorem dA_seat_60 : decode bA_seat 60 = .ok (.lload 4, 2) := by decide +kernel
theorem dA_seat_62 : decode bA_seat 62 = .ok (.lastore, 1) := by decide +kernel
theorem dA_seat_63 : decode bA_seat 63 = .ok (.iconst 1, 1) := by decide +kernel
theorem dA_seat_64 : decode bA_seat 64 = .ok (.ireturn, 1) := by decide +kernel
abbrev bA_requireSeat : ByteArray := prog_1_method_23_code
def yA_requireSeat : MethodName := ⟨"HandTables", "requireSeat", "(I)V"⟩
theorem dA_requireSeat_0 : decode bA_requireSeat 0 = .ok (.iload_n 0, 1) := by decide +kernel
theorem dA_requireSeat_1 : decode bA_requireSeat 1 = .ok (.ifCond .lt 9, 3) := by decide +kernel
theorem dA_requireSeat_4 : decode bA_requireSeat 4 = .ok (.iload_n 0, 1) := by decide +kernel
theorem dA_requireSeat_5 : decode bA_requireSeat 5 = .ok (.bipush 6, 2) := by decide +kernel
theorem dA_requireSeat_7 : decode bA_requireSeat 7 = .ok (.if_icmp .lt 13, 3) := by decide +kernel
theorem dA_requireSeat_10 : decode bA_requireSeat 10 = .ok (.new 127, 3) := by decide +kernel
theorem dA_requireSeat_13 : decode bA_requireSeat 13 = .ok (.dup, 1) := by decide +kernel
theorem dA_requireSeat_14 : decode bA_requireSeat 14 = .ok (.ldc 129, 2) := by decide +kernel
theorem dA_requireSeat_16 : decode bA_requireSeat 16 = .ok (.invokespecial 131, 3) := by decide +kernel
theorem dA_requireSeat_19 : decode bA_requireSeat 19 = .ok (.athrow, 1) := by decide +kernel
theorem dA_requireSeat_20 : decode bA_requireSeat 20 = .ok (.return_, 1) := by decide +kernel
abbrev bA_requireCard : ByteArray := prog_1_method_24_code
def yA_requireCard : MethodName := ⟨"HandTables", "requireCard", "(I)V"⟩
theorem dA_requireCard_0 : decode bA_requireCard 0 = .ok (.iload_n 0, 1) := by decide +kernel
theorem dA_requireCard_1 : decode bA_requireCard 1 = .ok (.ifCond .lt 9, 3) := by decide +kernel
theorem dA_requireCard_4 : decode bA_requireCard 4 = .ok (.iload_n 0, 1) := by decide +kernel
theorem dA_requireCard_5 : decode bA_requireCard 5 = .ok (.bipush 52, 2) := by decide +kernel
theorem dA_requireCard_7 : decode bA_requireCard 7 = .ok (.if_icmp .lt 13, 3) := by decide +kernel
theorem dA_requireCard_10 : decode bA_requireCard 10 = .ok (.new 50, 3) := by decide +kernel
theorem dA_requireCard_13 : decode bA_requireCard 13 = .ok (.dup, 1) := by decide +kernel
theorem dA_requireCard_14 : decode bA_requireCard 14 = .ok (.ldc 132, 2) := by decide +kernel
theorem dA_requireCard_16 : decode bA_requireCard 16 = .ok (.invokespecial 54, 3) := by decide +kernel
theorem dA_requireCard_19 : decode bA_requireCard 19 = .ok (.athrow, 1) := by decide +kernel
theorem dA_requireCard_20 : decode bA_requireCard 20 = .ok (.return_, 1) := by decide +kernel
abbrev bA_standing : ByteArray := prog_1_method_29_code
def yA_standing : MethodName := ⟨"HandTables", "standing", "()J"⟩
theorem dA_standing_0 : decode bA_standing 0 = .ok (.lconst 0, 1) := by decide +kernel
theorem dA_standing_1 : decode bA_standing 1 = .ok (.lstore_n 1, 1) := by decide +kernel
theorem dA_standing_2 : decode bA_standing 2 = .ok (.iconst 0, 1) := by decide +kernel
theorem dA_standing_3 : decode bA_standing 3 = .ok (.istore_n 3, 1) := by decide +kernel
theorem dA_standing_4 : decode bA_standing 4 = .ok (.iload_n 3, 1) := by decide +kernel
theorem dA_standing_5 : decode bA_standing 5 = .ok (.bipush 6, 2) := by decide +kernel
theorem dA_standing_7 : decode bA_standing 7 = .ok (.if_icmp .gt 18, 3) := by decide +kernel
theorem dA_standing_10 : decode bA_standing 10 = .ok (.lload_n 1, 1) := by decide +kernel
theorem dA_standing_11 : decode bA_standing 11 = .ok (.aload_n 0, 1) := by decide +kernel
theorem dA_standing_12 : decode bA_standing 12 = .ok (.getfield 9, 3) := by decide +kernel
theorem dA_standing_15 : decode bA_standing 15 = .ok (.iload_n 3, 1) := by decide +kernel
theorem dA_standing_16 : decode bA_standing 16 = .ok (.laload, 1) := by decide +kernel
theorem dA_standing_17 : decode bA_standing 17 = .ok (.lor, 1) := by decide +kernel
theorem dA_standing_18 : decode bA_standing 18 = .ok (.lstore_n 1, 1) := by decide +kernel
theorem dA_standing_19 : decode bA_standing 19 = .ok (.iinc 3 1, 3) := by decide +kernel
theorem dA_standing_22 : decode bA_standing 22 = .ok (.goto (-18), 3) := by decide +kernel
theorem dA_standing_25 : decode bA_standing 25 = .ok (.lload_n 1, 1) := by decide +kernel
theorem dA_standing_26 : decode bA_standing 26 = .ok (.lreturn, 1) := by decide +kernel
abbrev bA_leave : ByteArray := prog_1_method_9_code
def yA_leave : MethodName := ⟨"HandTables", "leave", "(I)Z"⟩
theorem dA_leave_0 : decode bA_leave 0 = .ok (.iload_n 1, 1) := by decide +kernel
theorem dA_leave_1 : decode bA_leave 1 = .ok (.invokestatic 57, 3) := by decide +kernel
theorem dA_leave_4 : decode bA_leave 4 = .ok (.aload_n 0, 1) := by decide +kernel
theorem dA_leave_5 : decode bA_leave 5 = .ok (.getfield 9, 3) := by decide +kernel
theorem dA_leave_8 : decode bA_leave 8 = .ok (.iload_n 1, 1) := by decide +kernel
theorem dA_leave_9 : decode bA_leave 9 = .ok (.laload, 1) := by decide +kernel
theorem dA_leave_10 : decode bA_leave 10 = .ok (.lconst 0, 1) := by decide +kernel
theorem dA_leave_11 : decode bA_leave 11 = .ok (.lcmp, 1) := by decide +kernel
theorem dA_leave_12 : decode bA_leave 12 = .ok (.ifCond .eq 7, 3) := by decide +kernel
theorem dA_leave_15 : decode bA_leave 15 = .ok (.iconst 1, 1) := by decide +kernel
theorem dA_leave_16 : decode bA_leave 16 = .ok (.goto 4, 3) := by decide +kernel
theorem dA_leave_19 : decode bA_leave 19 = .ok (.iconst 0, 1) := by decide +kernel
theorem dA_leave_20 : decode bA_leave 20 = .ok (.istore_n 2, 1) := by decide +kernel
theorem dA_leave_21 : decode bA_leave 21 = .ok (.aload_n 0, 1) := by decide +kernel
theorem dA_leave_22 : decode bA_leave 22 = .ok (.getfield 9, 3) := by decide +kernel
theorem dA_leave_25 : decode bA_leave 25 = .ok (.iload_n 1, 1) := by decide +kernel
theorem dA_leave_26 : decode bA_leave 26 = .ok (.lconst 0, 1) := by decide +kernel
theorem dA_leave_27 : decode bA_leave 27 = .ok (.lastore, 1) := by decide +kernel
theorem dA_leave_28 : decode bA_leave 28 = .ok (.iload_n 2, 1) := by decide +kernel
theorem dA_leave_29 : decode bA_leave 29 = .ok (.ireturn, 1) := by decide +kernel
abbrev bA_board : ByteArray := prog_1_method_10_code
def yA_board : MethodName := ⟨"HandTables", "board", "(I)I"⟩
theorem dA_board_0 : decode bA_board 0 = .ok (.iload_n 1, 1) := by decide +kernel
theorem dA_board_1 : decode bA_board 1 = .ok (.invokestatic 60, 3) := by decide +kernel
theorem dA_board_4 : decode bA_board 4 = .ok (.lconst 1, 1) := by decide +kernel
theorem dA_board_5 : decode bA_board 5 = .ok (.iload_n 1, 1) := by decide +kernel
theorem dA_board_6 : decode bA_board 6 = .ok (.lshl, 1) := by decide +kernel
theorem dA_board_7 : decode bA_board 7 = .ok (.lstore_n 2, 1) := by decide +kernel
theorem dA_board_8 : decode bA_board 8 = .ok (.aload_n 0, 1) := by decide +kernel
theorem dA_board_9 : decode bA_board 9 = .ok (.invokevirtual 69, 3) := by decide +kernel
theorem dA_board_12 : decode bA_board 12 = .ok (.ifCond .eq 14, 3) := by decide +kernel
theorem dA_board_15 : decode bA_board 15 = .ok (.aload_n 0, 1) := by decide +kernel
theorem dA_board_16 : decode bA_board 16 = .ok (.invokevirtual 63, 3) := by decide +kernel
theorem dA_board_19 : decode bA_board 19 = .ok (.lload_n 2, 1) := by decide +kernel
theorem dA_board_20 : decode bA_board 20 = .ok (.land, 1) := by decide +kernel
theorem dA_board_21 : decode bA_board 21 = .ok (.lconst 0, 1) := by decide +kernel
theorem dA_board_22 : decode bA_board 22 = .ok (.lcmp, 1) := by decide +kernel
theorem dA_board_23 : decode bA_board 23 = .ok (.ifCond .eq 5, 3) := by decide +kernel
theorem dA_board_26 : decode bA_board 26 = .ok (.iconst (-1), 1) := by decide +kernel
theorem dA_board_27 : decode bA_board 27 = .ok (.ireturn, 1) := by decide +kernel
theorem dA_board_28 : decode bA_board 28 = .ok (.aload_n 0, 1) := by decide +kernel
theorem dA_board_29 : decode bA_board 29 = .ok (.getfield 9, 3) := by decide +kernel
theorem dA_board_32 : decode bA_board 32 = .ok (.bipush 6, 2) := by decide +kernel
theorem dA_board_34 : decode bA_board 34 = .ok (.dup2, 1) := by decide +kernel
theorem dA_board_35 : decode bA_board 35 = .ok (.laload, 1) := by decide +kernel
theorem dA_board_36 : decode bA_board 36 = .ok (.lload_n 2, 1) := by decide +kernel
theorem dA_board_37 : decode bA_board 37 = .ok (.lor, 1) := by decide +kernel
theorem dA_board_38 : decode bA_board 38 = .ok (.lastore, 1) := by decide +kernel
theorem dA_board_39 : decode bA_board 39 = .ok (.aload_n 0, 1) := by decide +kernel
theorem dA_board_40 : decode bA_board 40 = .ok (.invokevirtual 73, 3) := by decide +kernel
theorem dA_board_43 : decode bA_board 43 = .ok (.ireturn, 1) := by decide +kernel
abbrev bA_missing : ByteArray := prog_1_method_28_code
def yA_missing : MethodName := ⟨"HandTables", "missing", "()I"⟩
theorem dA_missing_0 : decode bA_missing 0 = .ok (.iconst 5, 1) := by decide +kernel
theorem dA_missing_1 : decode bA_missing 1 = .ok (.aload_n 0, 1) := by decide +kernel
theorem dA_missing_2 : decode bA_missing 2 = .ok (.invokevirtual 73, 3) := by decide +kernel
theorem dA_missing_5 : decode bA_missing 5 = .ok (.isub, 1) := by decide +kernel
theorem dA_missing_6 : decode bA_missing 6 = .ok (.ireturn, 1) := by decide +kernel
abbrev bA_cards : ByteArray := prog_1_method_12_code
def yA_cards : MethodName := ⟨"HandTables", "cards", "(I)J"⟩
theorem dA_cards_0 : decode bA_cards 0 = .ok (.iload_n 1, 1) := by decide +kernel
theorem dA_cards_1 : decode bA_cards 1 = .ok (.bipush 6, 2) := by decide +kernel
theorem dA_cards_3 : decode bA_cards 3 = .ok (.if_icmp .eq 7, 3) := by decide +kernel
theorem dA_cards_6 : decode bA_cards 6 = .ok (.iload_n 1, 1) := by decide +kernel
theorem dA_cards_7 : decode bA_cards 7 = .ok (.invokestatic 57, 3) := by decide +kernel
theorem dA_cards_10 : decode bA_cards 10 = .ok (.aload_n 0, 1) := by decide +kernel
theorem dA_cards_11 : decode bA_cards 11 = .ok (.getfield 9, 3) := by decide +kernel
theorem dA_cards_14 : decode bA_cards 14 = .ok (.iload_n 1, 1) := by decide +kernel
theorem dA_cards_15 : decode bA_cards 15 = .ok (.laload, 1) := by decide +kernel
theorem dA_cards_16 : decode bA_cards 16 = .ok (.lreturn, 1) := by decide +kernel
abbrev bA_hand : ByteArray := prog_1_method_13_code
def yA_hand : MethodName := ⟨"HandTables", "hand", "(I)I"⟩
theorem dA_hand_0 : decode bA_hand 0 = .ok (.iload_n 1, 1) := by decide +kernel
theorem dA_hand_1 : decode bA_hand 1 = .ok (.invokestatic 57, 3) := by decide +kernel
theorem dA_hand_4 : decode bA_hand 4 = .ok (.aload_n 0, 1) := by decide +kernel
theorem dA_hand_5 : decode bA_hand 5 = .ok (.iload_n 1, 1) := by decide +kernel
theorem dA_hand_6 : decode bA_hand 6 = .ok (.invokevirtual 76, 3) := by decide +kernel
theorem dA_hand_9 : decode bA_hand 9 = .ok (.aload_n 0, 1) := by decide +kernel
theorem dA_hand_10 : decode bA_hand 10 = .ok (.invokevirtual 79, 3) := by decide +kernel
theorem dA_hand_13 : decode bA_hand 13 = .ok (.aload_n 0, 1) := by decide +kernel
theorem dA_hand_14 : decode bA_hand 14 = .ok (.getfield 9, 3) := by decide +kernel
theorem dA_hand_17 : decode bA_hand 17 = .ok (.iload_n 1, 1) := by decide +kernel
theorem dA_hand_18 : decode bA_hand 18 = .ok (.laload, 1) := by decide +kernel
theorem dA_hand_19 : decode bA_hand 19 = .ok (.aload_n 0, 1) := by decide +kernel
theorem dA_hand_20 : decode bA_hand 20 = .ok (.getfield 9, 3) := by decide +kernel
theorem dA_hand_23 : decode bA_hand 23 = .ok (.bipush 6, 2) := by decide +kernel
theorem dA_hand_25 : decode bA_hand 25 = .ok (.laload, 1) := by decide +kernel
theorem dA_hand_26 : decode bA_hand 26 = .ok (.lor, 1) := by decide +kernel
theorem dA_hand_27 : decode bA_hand 27 = .ok (.invokestatic 24, 3) := by decide +kernel
theorem dA_hand_30 : decode bA_hand 30 = .ok (.ireturn, 1) := by decide +kernel
abbrev bA_requireTaken : ByteArray := prog_1_method_25_code
def yA_requireTaken : MethodName := ⟨"HandTables", "requireTaken", "(I)V"⟩
theorem dA_requireTaken_0 : decode bA_requireTaken 0 = .ok (.aload_n 0, 1) := by decide +kernel
theorem dA_requireTaken_1 : decode bA_requireTaken 1 = .ok (.getfield 9, 3) := by decide +kernel
theorem dA_requireTaken_4 : decode bA_requireTaken 4 = .ok (.iload_n 1, 1) := by decide +kernel
theorem dA_requireTaken_5 : decode bA_requireTaken 5 = .ok (.laload, 1) := by decide +kernel
theorem dA_requireTaken_6 : decode bA_requireTaken 6 = .ok (.lconst 0, 1) := by decide +kernel
theorem dA_requireTaken_7 : decode bA_requireTaken 7 = .ok (.lcmp, 1) := by decide +kernel
theorem dA_requireTaken_8 : decode bA_requireTaken 8 = .ok (.ifCond .ne 13, 3) := by decide +kernel
theorem dA_requireTaken_11 : decode bA_requireTaken 11 = .ok (.new 86, 3) := by decide +kernel
theorem dA_requireTaken_14 : decode bA_requireTaken 14 = .ok (.dup, 1) := by decide +kernel
theorem dA_requireTaken_15 : decode bA_requireTaken 15 = .ok (.ldc 134, 2) := by decide +kernel
theorem dA_requireTaken_17 : decode bA_requireTaken 17 = .ok (.invokespecial 90, 3) := by decide +kernel
theorem dA_requireTaken_20 : decode bA_requireTaken 20 = .ok (.athrow, 1) := by decide +kernel
theorem dA_requireTaken_21 : decode bA_requireTaken 21 = .ok (.return_, 1) := by decide +kernel
abbrev bA_requireThreeOnBoard : ByteArray := prog_1_method_26_code
def yA_requireThreeOnBoard : MethodName := ⟨"HandTables", "requireThreeOnBoard", "()V"⟩
theorem dA_requireThreeOnBoard_0 : decode bA_requireThreeOnBoard 0 = .ok (.aload_n 0, 1) := by decide +kernel
theorem dA_requireThreeOnBoard_1 : decode bA_requireThreeOnBoard 1 = .ok (.invokevirtual 73, 3) := by decide +kernel
theorem dA_requireThreeOnBoard_4 : decode bA_requireThreeOnBoard 4 = .ok (.iconst 3, 1) := by decide +kernel
theorem dA_requireThreeOnBoard_5 : decode bA_requireThreeOnBoard 5 = .ok (.if_icmp .ge 13, 3) := by decide +kernel
theorem dA_requireThreeOnBoard_8 : decode bA_requireThreeOnBoard 8 = .ok (.new 86, 3) := by decide +kernel
theorem dA_requireThreeOnBoard_11 : decode bA_requireThreeOnBoard 11 = .ok (.dup, 1) := by decide +kernel
theorem dA_requireThreeOnBoard_12 : decode bA_requireThreeOnBoard 12 = .ok (.ldc 136, 2) := by decide +kernel
theorem dA_requireThreeOnBoard_14 : decode bA_requireThreeOnBoard 14 = .ok (.invokespecial 90, 3) := by decide +kernel
theorem dA_requireThreeOnBoard_17 : decode bA_requireThreeOnBoard 17 = .ok (.athrow, 1) := by decide +kernel
theorem dA_requireThreeOnBoard_18 : decode bA_requireThreeOnBoard 18 = .ok (.return_, 1) := by decide +kernel
abbrev bA_ahead : ByteArray := prog_1_method_14_code
def yA_ahead : MethodName := ⟨"HandTables", "ahead", "()I"⟩
theorem dA_ahead_0 : decode bA_ahead 0 = .ok (.aload_n 0, 1) := by decide +kernel
theorem dA_ahead_1 : decode bA_ahead 1 = .ok (.invokevirtual 79, 3) := by decide +kernel
theorem dA_ahead_4 : decode bA_ahead 4 = .ok (.aload_n 0, 1) := by decide +kernel
theorem dA_ahead_5 : decode bA_ahead 5 = .ok (.getfield 9, 3) := by decide +kernel
theorem dA_ahead_8 : decode bA_ahead 8 = .ok (.aload_n 0, 1) := by decide +kernel
theorem dA_ahead_9 : decode bA_ahead 9 = .ok (.getfield 9, 3) := by decide +kernel
theorem dA_ahead_12 : decode bA_ahead 12 = .ok (.bipush 6, 2) := by decide +kernel
theorem dA_ahead_14 : decode bA_ahead 14 = .ok (.laload, 1) := by decide +kernel
theorem dA_ahead_15 : decode bA_ahead 15 = .ok (.invokestatic 82, 3) := by decide +kernel
theorem dA_ahead_18 : decode bA_ahead 18 = .ok (.istore_n 1, 1) := by decide +kernel
theorem dA_ahead_19 : decode bA_ahead 19 = .ok (.iload_n 1, 1) := by decide +kernel
theorem dA_ahead_20 : decode bA_ahead 20 = .ok (.ifCond .ne 13, 3) := by decide +kernel
theorem dA_ahead_23 : decode bA_ahead 23 = .ok (.new 86, 3) := by decide +kernel
theorem dA_ahead_26 : decode bA_ahead 26 = .ok (.dup, 1) := by decide +kernel
theorem dA_ahead_27 : decode bA_ahead 27 = .ok (.ldc 88, 2) := by decide +kernel
theorem dA_ahead_29 : decode bA_ahead 29 = .ok (.invokespecial 90, 3) := by decide +kernel
theorem dA_ahead_32 : decode bA_ahead 32 = .ok (.athrow, 1) := by decide +kernel
theorem dA_ahead_33 : decode bA_ahead 33 = .ok (.iload_n 1, 1) := by decide +kernel
theorem dA_ahead_34 : decode bA_ahead 34 = .ok (.ireturn, 1) := by decide +kernel
abbrev bA_leadersOn : ByteArray := prog_1_method_31_code
def yA_leadersOn : MethodName := ⟨"HandTables", "leadersOn", "([JJ)I"⟩
theorem dA_leadersOn_0 : decode bA_leadersOn 0 = .ok (.iconst (-1), 1) := by decide +kernel
theorem dA_leadersOn_1 : decode bA_leadersOn 1 = .ok (.istore_n 3, 1) := by decide +kernel
theorem dA_leadersOn_2 : decode bA_leadersOn 2 = .ok (.iconst 0, 1) := by decide +kernel
theorem dA_leadersOn_3 : decode bA_leadersOn 3 = .ok (.istore 4, 2) := by decide +kernel
theorem dA_leadersOn_5 : decode bA_leadersOn 5 = .ok (.iconst 0, 1) := by decide +kernel
theorem dA_leadersOn_6 : decode bA_leadersOn 6 = .ok (.istore 5, 2) := by decide +kernel
theorem dA_leadersOn_8 : decode bA_leadersOn 8 = .ok (.iload 5, 2) := by decide +kernel
theorem dA_leadersOn_10 : decode bA_leadersOn 10 = .ok (.bipush 6, 2) := by decide +kernel
theorem dA_leadersOn_12 : decode bA_leadersOn 12 = .ok (.if_icmp .ge 66, 3) := by decide +kernel
theorem dA_leadersOn_15 : decode bA_leadersOn 15 = .ok (.aload_n 0, 1) := by decide +kernel
theorem dA_leadersOn_16 : decode bA_leadersOn 16 = .ok (.iload 5, 2) := by decide +kernel
theorem dA_leadersOn_18 : decode bA_leadersOn 18 = .ok (.laload, 1) := by decide +kernel
theorem dA_leadersOn_19 : decode bA_leadersOn 19 = .ok (.lconst 0, 1) := by decide +kernel
theorem dA_leadersOn_20 : decode bA_leadersOn 20 = .ok (.lcmp, 1) := by decide +kernel
theorem dA_leadersOn_21 : decode bA_leadersOn 21 = .ok (.ifCond .ne 7, 3) := by decide +kernel
theorem dA_leadersOn_24 : decode bA_leadersOn 24 = .ok (.iconst (-1), 1) := by decide +kernel
theorem dA_leadersOn_25 : decode bA_leadersOn 25 = .ok (.goto 12, 3) := by decide +kernel
theorem dA_leadersOn_28 : decode bA_leadersOn 28 = .ok (.aload_n 0, 1) := by decide +kernel
theorem dA_leadersOn_29 : decode bA_leadersOn 29 = .ok (.iload 5, 2) := by decide +kernel
theorem dA_leadersOn_31 : decode bA_leadersOn 31 = .ok (.laload, 1) := by decide +kernel
theorem dA_leadersOn_32 : decode bA_leadersOn 32 = .ok (.lload_n 1, 1) := by decide +kernel
theorem dA_leadersOn_33 : decode bA_leadersOn 33 = .ok (.lor, 1) := by decide +kernel
theorem dA_leadersOn_34 : decode bA_leadersOn 34 = .ok (.invokestatic 24, 3) := by decide +kernel
theorem dA_leadersOn_37 : decode bA_leadersOn 37 = .ok (.istore 6, 2) := by decide +kernel
theorem dA_leadersOn_39 : decode bA_leadersOn 39 = .ok (.iload 6, 2) := by decide +kernel
theorem dA_leadersOn_41 : decode bA_leadersOn 41 = .ok (.iload_n 3, 1) := by decide +kernel
theorem dA_leadersOn_42 : decode bA_leadersOn 42 = .ok (.if_icmp .le 9, 3) := by decide +kernel
theorem dA_leadersOn_45 : decode bA_leadersOn 45 = .ok (.iload 6, 2) := by decide +kernel
theorem dA_leadersOn_47 : decode bA_leadersOn 47 = .ok (.istore_n 3, 1) := by decide +kernel
theorem dA_leadersOn_48 : decode bA_leadersOn 48 = .ok (.iconst 0, 1) := by decide +kernel
theorem dA_leadersOn_49 : decode bA_leadersOn 49 = .ok (.istore 4, 2) := by decide +kernel
theorem dA_leadersOn_51 : decode bA_leadersOn 51 = .ok (.iload 6, 2) := by decide +kernel
theorem dA_leadersOn_53 : decode bA_leadersOn 53 = .ok (.iconst (-1), 1) := by decide +kernel
theorem dA_leadersOn_54 : decode bA_leadersOn 54 = .ok (.if_icmp .eq 18, 3) := by decide +kernel
theorem dA_leadersOn_57 : decode bA_leadersOn 57 = .ok (.iload 6, 2) := by decide +kernel
theorem dA_leadersOn_59 : decode bA_leadersOn 59 = .ok (.iload_n 3, 1) := by decide +kernel
theorem dA_leadersOn_60 : decode bA_leadersOn 60 = .ok (.if_icmp .ne 12, 3) := by decide +kernel
theorem dA_leadersOn_63 : decode bA_leadersOn 63 = .ok (.iload 4, 2) := by decide +kernel
theorem dA_leadersOn_65 : decode bA_leadersOn 65 = .ok (.iconst 1, 1) := by decide +kernel
theorem dA_leadersOn_66 : decode bA_leadersOn 66 = .ok (.iload 5, 2) := by decide +kernel
theorem dA_leadersOn_68 : decode bA_leadersOn 68 = .ok (.ishl, 1) := by decide +kernel
theorem dA_leadersOn_69 : decode bA_leadersOn 69 = .ok (.ior, 1) := by decide +kernel
theorem dA_leadersOn_70 : decode bA_leadersOn 70 = .ok (.istore 4, 2) := by decide +kernel
theorem dA_leadersOn_72 : decode bA_leadersOn 72 = .ok (.iinc 5 1, 3) := by decide +kernel
theorem dA_leadersOn_75 : decode bA_leadersOn 75 = .ok (.goto (-67), 3) := by decide +kernel
theorem dA_leadersOn_78 : decode bA_leadersOn 78 = .ok (.iload 4, 2) := by decide +kernel
theorem dA_leadersOn_80 : decode bA_leadersOn 80 = .ok (.ireturn, 1) := by decide +kernel
abbrev bA_boards : ByteArray := prog_1_method_15_code
def yA_boards : MethodName := ⟨"HandTables", "boards", "()I"⟩
theorem dA_boards_0 : decode bA_boards 0 = .ok (.aload_n 0, 1) := by decide +kernel
theorem dA_boards_1 : decode bA_boards 1 = .ok (.invokevirtual 79, 3) := by decide +kernel
theorem dA_boards_4 : decode bA_boards 4 = .ok (.aload_n 0, 1) := by decide +kernel
theorem dA_boards_5 : decode bA_boards 5 = .ok (.invokevirtual 91, 3) := by decide +kernel
theorem dA_boards_8 : decode bA_boards 8 = .ok (.invokestatic 94, 3) := by decide +kernel
theorem dA_boards_11 : decode bA_boards 11 = .ok (.istore_n 1, 1) := by decide +kernel
theorem dA_boards_12 : decode bA_boards 12 = .ok (.aload_n 0, 1) := by decide +kernel
theorem dA_boards_13 : decode bA_boards 13 = .ok (.invokevirtual 69, 3) := by decide +kernel
theorem dA_boards_16 : decode bA_boards 16 = .ok (.lookupswitch 32 #[(0, 28), (1, 30)], 28) := by decide +kernel
theorem dA_boards_44 : decode bA_boards 44 = .ok (.iconst 1, 1) := by decide +kernel
theorem dA_boards_45 : decode bA_boards 45 = .ok (.ireturn, 1) := by decide +kernel
theorem dA_boards_46 : decode bA_boards 46 = .ok (.iload_n 1, 1) := by decide +kernel
theorem dA_boards_47 : decode bA_boards 47 = .ok (.ireturn, 1) := by decide +kernel
theorem dA_boards_48 : decode bA_boards 48 = .ok (.iload_n 1, 1) := by decide +kernel
theorem dA_boards_49 : decode bA_boards 49 = .ok (.iload_n 1, 1) := by decide +kernel
theorem dA_boards_50 : decode bA_boards 50 = .ok (.iconst 1, 1) := by decide +kernel
theorem dA_boards_51 : decode bA_boards 51 = .ok (.isub, 1) := by decide +kernel
theorem dA_boards_52 : decode bA_boards 52 = .ok (.imul, 1) := by decide +kernel
theorem dA_boards_53 : decode bA_boards 53 = .ok (.iconst 2, 1) := by decide +kernel
theorem dA_boards_54 : decode bA_boards 54 = .ok (.idiv, 1) := by decide +kernel
theorem dA_boards_55 : decode bA_boards 55 = .ok (.ireturn, 1) := by decide +kernel
abbrev bA_free : ByteArray := prog_1_method_30_code
def yA_free : MethodName := ⟨"HandTables", "free", "()J"⟩
theorem dA_free_0 : decode bA_free 0 = .ok (.ldc2_w 138, 3) := by decide +kernel
theorem dA_free_3 : decode bA_free 3 = .ok (.aload_n 0, 1) := by decide +kernel
theorem dA_free_4 : decode bA_free 4 = .ok (.invokevirtual 63, 3) := by decide +kernel
theorem dA_free_7 : decode bA_free 7 = .ok (.ldc2_w 67, 3) := by decide +kernel
theorem dA_free_10 : decode bA_free 10 = .ok (.lxor, 1) := by decide +kernel
theorem dA_free_11 : decode bA_free 11 = .ok (.land, 1) := by decide +kernel
theorem dA_free_12 : decode bA_free 12 = .ok (.lreturn, 1) := by decide +kernel
abbrev bA_wins : ByteArray := prog_1_method_16_code
def yA_wins : MethodName := ⟨"HandTables", "wins", "(II)I"⟩
theorem dA_wins_0 : decode bA_wins 0 = .ok (.iload_n 1, 1) := by decide +kernel
theorem dA_wins_1 : decode bA_wins 1 = .ok (.invokestatic 57, 3) := by decide +kernel
theorem dA_wins_4 : decode bA_wins 4 = .ok (.iload_n 2, 1) := by decide +kernel
theorem dA_wins_5 : decode bA_wins 5 = .ok (.ifCond .eq 18, 3) := by decide +kernel
theorem dA_wins_8 : decode bA_wins 8 = .ok (.iload_n 2, 1) := by decide +kernel
theorem dA_wins_9 : decode bA_wins 9 = .ok (.iconst 1, 1) := by decide +kernel
theorem dA_wins_10 : decode bA_wins 10 = .ok (.if_icmp .eq 13, 3) := by decide +kernel
theorem dA_wins_13 : decode bA_wins 13 = .ok (.new 50, 3) := by decide +kernel
theorem dA_wins_16 : decode bA_wins 16 = .ok (.dup, 1) := by decide +kernel
theorem dA_wins_17 : decode bA_wins 17 = .ok (.ldc 99, 2) := by decide +kernel
theorem dA_wins_19 : decode bA_wins 19 = .ok (.invokespecial 54, 3) := by decide +kernel
theorem dA_wins_22 : decode bA_wins 22 = .ok (.athrow, 1) := by decide +kernel
theorem dA_wins_23 : decode bA_wins 23 = .ok (.aload_n 0, 1) := by decide +kernel
theorem dA_wins_24 : decode bA_wins 24 = .ok (.iload_n 1, 1) := by decide +kernel
theorem dA_wins_25 : decode bA_wins 25 = .ok (.invokevirtual 76, 3) := by decide +kernel
theorem dA_wins_28 : decode bA_wins 28 = .ok (.aload_n 0, 1) := by decide +kernel
theorem dA_wins_29 : decode bA_wins 29 = .ok (.invokevirtual 79, 3) := by decide +kernel
theorem dA_wins_32 : decode bA_wins 32 = .ok (.aload_n 0, 1) := by decide +kernel
theorem dA_wins_33 : decode bA_wins 33 = .ok (.getfield 9, 3) := by decide +kernel
theorem dA_wins_36 : decode bA_wins 36 = .ok (.iload_n 1, 1) := by decide +kernel
theorem dA_wins_37 : decode bA_wins 37 = .ok (.iload_n 2, 1) := by decide +kernel
theorem dA_wins_38 : decode bA_wins 38 = .ok (.iconst 1, 1) := by decide +kernel
theorem dA_wins_39 : decode bA_wins 39 = .ok (.if_icmp .ne 7, 3) := by decide +kernel
theorem dA_wins_42 : decode bA_wins 42 = .ok (.iconst 1, 1) := by decide +kernel
theorem dA_wins_43 : decode bA_wins 43 = .ok (.goto 4, 3) := by decide +kernel
theorem dA_wins_46 : decode bA_wins 46 = .ok (.iconst 0, 1) := by decide +kernel
theorem dA_wins_47 : decode bA_wins 47 = .ok (.aload_n 0, 1) := by decide +kernel
theorem dA_wins_48 : decode bA_wins 48 = .ok (.getfield 9, 3) := by decide +kernel
theorem dA_wins_51 : decode bA_wins 51 = .ok (.bipush 6, 2) := by decide +kernel
theorem dA_wins_53 : decode bA_wins 53 = .ok (.laload, 1) := by decide +kernel
theorem dA_wins_54 : decode bA_wins 54 = .ok (.aload_n 0, 1) := by decide +kernel
theorem dA_wins_55 : decode bA_wins 55 = .ok (.invokevirtual 91, 3) := by decide +kernel
theorem dA_wins_58 : decode bA_wins 58 = .ok (.aload_n 0, 1) := by decide +kernel
theorem dA_wins_59 : decode bA_wins 59 = .ok (.invokevirtual 69, 3) := by decide +kernel
theorem dA_wins_62 : decode bA_wins 62 = .ok (.invokestatic 101, 3) := by decide +kernel
theorem dA_wins_65 : decode bA_wins 65 = .ok (.ireturn, 1) := by decide +kernel
abbrev bA_countBoards : ByteArray := prog_1_method_32_code
def yA_countBoards : MethodName := ⟨"HandTables", "countBoards", "([JIZJJI)I"⟩
theorem dA_countBoards_0 : decode bA_countBoards 0 = .ok (.iload 7, 2) := by decide +kernel
theorem dA_countBoards_2 : decode bA_countBoards 2 = .ok (.ifCond .gt 22, 3) := by decide +kernel
theorem dA_countBoards_5 : decode bA_countBoards 5 = .ok (.iload_n 1, 1) := by decide +kernel
theorem dA_countBoards_6 : decode bA_countBoards 6 = .ok (.iload_n 2, 1) := by decide +kernel
theorem dA_countBoards_7 : decode bA_countBoards 7 = .ok (.aload_n 0, 1) := by decide +kernel
theorem dA_countBoards_8 : decode bA_countBoards 8 = .ok (.lload_n 3, 1) := by decide +kernel
theorem dA_countBoards_9 : decode bA_countBoards 9 = .ok (.invokestatic 82, 3) := by decide +kernel
theorem dA_countBoards_12 : decode bA_countBoards 12 = .ok (.invokestatic 140, 3) := by decide +kernel
theorem dA_countBoards_15 : decode bA_countBoards 15 = .ok (.ifCond .eq 7, 3) := by decide +kernel
theorem dA_countBoards_18 : decode bA_countBoards 18 = .ok (.iconst 1, 1) := by decide +kernel
theorem dA_countBoards_19 : decode bA_countBoards 19 = .ok (.goto 4, 3) := by decide +kernel
theorem dA_countBoards_22 : decode bA_countBoards 22 = .ok (.iconst 0, 1) := by decide +kernel
theorem dA_countBoards_23 : decode bA_countBoards 23 = .ok (.ireturn, 1) := by decide +kernel
theorem dA_countBoards_24 : decode bA_countBoards 24 = .ok (.iconst 0, 1) := by decide +kernel
theorem dA_countBoards_25 : decode bA_countBoards 25 = .ok (.istore 8, 2) := by decide +kernel
theorem dA_countBoards_27 : decode bA_countBoards 27 = .ok (.lload 5, 2) := by decide +kernel
theorem dA_countBoards_29 : decode bA_countBoards 29 = .ok (.lstore 9, 2) := by decide +kernel
theorem dA_countBoards_31 : decode bA_countBoards 31 = .ok (.iconst 0, 1) := by decide +kernel
theorem dA_countBoards_32 : decode bA_countBoards 32 = .ok (.istore 11, 2) := by decide +kernel
theorem dA_countBoards_34 : decode bA_countBoards 34 = .ok (.iload 11, 2) := by decide +kernel
theorem dA_countBoards_36 : decode bA_countBoards 36 = .ok (.bipush 52, 2) := by decide +kernel
theorem dA_countBoards_38 : decode bA_countBoards 38 = .ok (.if_icmp .ge 57, 3) := by decide +kernel
theorem dA_countBoards_41 : decode bA_countBoards 41 = .ok (.lload 9, 2) := by decide +kernel
theorem dA_countBoards_43 : decode bA_countBoards 43 = .ok (.lconst 1, 1) := by decide +kernel
theorem dA_countBoards_44 : decode bA_countBoards 44 = .ok (.iload 11, 2) := by decide +kernel
theorem dA_countBoards_46 : decode bA_countBoards 46 = .ok (.lshl, 1) := by decide +kernel
theorem dA_countBoards_47 : decode bA_countBoards 47 = .ok (.land, 1) := by decide +kernel
theorem dA_countBoards_48 : decode bA_countBoards 48 = .ok (.lstore 12, 2) := by decide +kernel
theorem dA_countBoards_50 : decode bA_countBoards 50 = .ok (.lload 12, 2) := by decide +kernel
theorem dA_countBoards_52 : decode bA_countBoards 52 = .ok (.lconst 0, 1) := by decide +kernel
theorem dA_countBoards_53 : decode bA_countBoards 53 = .ok (.lcmp, 1) := by decide +kernel
theorem dA_countBoards_54 : decode bA_countBoards 54 = .ok (.ifCond .eq 35, 3) := by decide +kernel
theorem dA_countBoards_57 : decode bA_countBoards 57 = .ok (.lload 9, 2) := by decide +kernel
theorem dA_countBoards_59 : decode bA_countBoards 59 = .ok (.lload 12, 2) := by decide +kernel
theorem dA_countBoards_61 : decode bA_countBoards 61 = .ok (.ldc2_w 67, 3) := by decide +kernel
theorem dA_countBoards_64 : decode bA_countBoards 64 = .ok (.lxor, 1) := by decide +kernel
theorem dA_countBoards_65 : decode bA_countBoards 65 = .ok (.land, 1) := by decide +kernel
theorem dA_countBoards_66 : decode bA_countBoards 66 = .ok (.lstore 9, 2) := by decide +kernel
theorem dA_countBoards_68 : decode bA_countBoards 68 = .ok (.iload 8, 2) := by decide +kernel
theorem dA_countBoards_70 : decode bA_countBoards 70 = .ok (.aload_n 0, 1) := by decide +kernel
theorem dA_countBoards_71 : decode bA_countBoards 71 = .ok (.iload_n 1, 1) := by decide +kernel
theorem dA_countBoards_72 : decode bA_countBoards 72 = .ok (.iload_n 2, 1) := by decide +kernel
theorem dA_countBoards_73 : decode bA_countBoards 73 = .ok (.lload_n 3, 1) := by decide +kernel
theorem dA_countBoards_74 : decode bA_countBoards 74 = .ok (.lload 12, 2) := by decide +kernel
theorem dA_countBoards_76 : decode bA_countBoards 76 = .ok (.lor, 1) := by decide +kernel
theorem dA_countBoards_77 : decode bA_countBoards 77 = .ok (.lload 9, 2) := by decide +kernel
theorem dA_countBoards_79 : decode bA_countBoards 79 = .ok (.iload 7, 2) := by decide +kernel
theorem dA_countBoards_81 : decode bA_countBoards 81 = .ok (.iconst 1, 1) := by decide +kernel
theorem dA_countBoards_82 : decode bA_countBoards 82 = .ok (.isub, 1) := by decide +kernel
theorem dA_countBoards_83 : decode bA_countBoards 83 = .ok (.invokestatic 101, 3) := by decide +kernel
theorem dA_countBoards_86 : decode bA_countBoards 86 = .ok (.iadd, 1) := by decide +kernel
theorem dA_countBoards_87 : decode bA_countBoards 87 = .ok (.istore 8, 2) := by decide +kernel
theorem dA_countBoards_89 : decode bA_countBoards 89 = .ok (.iinc 11 1, 3) := by decide +kernel
theorem dA_countBoards_92 : decode bA_countBoards 92 = .ok (.goto (-58), 3) := by decide +kernel
theorem dA_countBoards_95 : decode bA_countBoards 95 = .ok (.iload 8, 2) := by decide +kernel
theorem dA_countBoards_97 : decode bA_countBoards 97 = .ok (.ireturn, 1) := by decide +kernel
abbrev bA_isOutcome : ByteArray := prog_1_method_33_code
def yA_isOutcome : MethodName := ⟨"HandTables", "isOutcome", "(IZI)Z"⟩
theorem dA_isOutcome_0 : decode bA_isOutcome 0 = .ok (.iload_n 2, 1) := by decide +kernel
theorem dA_isOutcome_1 : decode bA_isOutcome 1 = .ok (.iconst 1, 1) := by decide +kernel
theorem dA_isOutcome_2 : decode bA_isOutcome 2 = .ok (.iload_n 0, 1) := by decide +kernel
theorem dA_isOutcome_3 : decode bA_isOutcome 3 = .ok (.ishl, 1) := by decide +kernel
theorem dA_isOutcome_4 : decode bA_isOutcome 4 = .ok (.iand, 1) := by decide +kernel
theorem dA_isOutcome_5 : decode bA_isOutcome 5 = .ok (.ifCond .eq 7, 3) := by decide +kernel
theorem dA_isOutcome_8 : decode bA_isOutcome 8 = .ok (.iconst 1, 1) := by decide +kernel
theorem dA_isOutcome_9 : decode bA_isOutcome 9 = .ok (.goto 4, 3) := by decide +kernel
theorem dA_isOutcome_12 : decode bA_isOutcome 12 = .ok (.iconst 0, 1) := by decide +kernel
theorem dA_isOutcome_13 : decode bA_isOutcome 13 = .ok (.istore_n 3, 1) := by decide +kernel
theorem dA_isOutcome_14 : decode bA_isOutcome 14 = .ok (.iload_n 2, 1) := by decide +kernel
theorem dA_isOutcome_15 : decode bA_isOutcome 15 = .ok (.iconst 1, 1) := by decide +kernel
theorem dA_isOutcome_16 : decode bA_isOutcome 16 = .ok (.iload_n 0, 1) := by decide +kernel
theorem dA_isOutcome_17 : decode bA_isOutcome 17 = .ok (.ishl, 1) := by decide +kernel
theorem dA_isOutcome_18 : decode bA_isOutcome 18 = .ok (.if_icmp .ne 7, 3) := by decide +kernel
theorem dA_isOutcome_21 : decode bA_isOutcome 21 = .ok (.iconst 1, 1) := by decide +kernel
theorem dA_isOutcome_22 : decode bA_isOutcome 22 = .ok (.goto 4, 3) := by decide +kernel
theorem dA_isOutcome_25 : decode bA_isOutcome 25 = .ok (.iconst 0, 1) := by decide +kernel
theorem dA_isOutcome_26 : decode bA_isOutcome 26 = .ok (.istore 4, 2) := by decide +kernel
theorem dA_isOutcome_28 : decode bA_isOutcome 28 = .ok (.iload_n 3, 1) := by decide +kernel
theorem dA_isOutcome_29 : decode bA_isOutcome 29 = .ok (.ifCond .eq 13, 3) := by decide +kernel
theorem dA_isOutcome_32 : decode bA_isOutcome 32 = .ok (.iload_n 1, 1) := by decide +kernel
theorem dA_isOutcome_33 : decode bA_isOutcome 33 = .ok (.iload 4, 2) := by decide +kernel
theorem dA_isOutcome_35 : decode bA_isOutcome 35 = .ok (.if_icmp .eq 7, 3) := by decide +kernel
theorem dA_isOutcome_38 : decode bA_isOutcome 38 = .ok (.iconst 1, 1) := by decide +kernel
theorem dA_isOutcome_39 : decode bA_isOutcome 39 = .ok (.goto 4, 3) := by decide +kernel
theorem dA_isOutcome_42 : decode bA_isOutcome 42 = .ok (.iconst 0, 1) := by decide +kernel
theorem dA_isOutcome_43 : decode bA_isOutcome 43 = .ok (.ireturn, 1) := by decide +kernel
abbrev bA_outs : ByteArray := prog_1_method_17_code
def yA_outs : MethodName := ⟨"HandTables", "outs", "(I)J"⟩
theorem dA_outs_0 : decode bA_outs 0 = .ok (.iload_n 1, 1) := by decide +kernel
theorem dA_outs_1 : decode bA_outs 1 = .ok (.invokestatic 57, 3) := by decide +kernel
theorem dA_outs_4 : decode bA_outs 4 = .ok (.aload_n 0, 1) := by decide +kernel
theorem dA_outs_5 : decode bA_outs 5 = .ok (.iload_n 1, 1) := by decide +kernel
theorem dA_outs_6 : decode bA_outs 6 = .ok (.invokevirtual 76, 3) := by decide +kernel
theorem dA_outs_9 : decode bA_outs 9 = .ok (.aload_n 0, 1) := by decide +kernel
theorem dA_outs_10 : decode bA_outs 10 = .ok (.invokevirtual 79, 3) := by decide +kernel
theorem dA_outs_13 : decode bA_outs 13 = .ok (.aload_n 0, 1) := by decide +kernel
theorem dA_outs_14 : decode bA_outs 14 = .ok (.invokevirtual 69, 3) := by decide +kernel
theorem dA_outs_17 : decode bA_outs 17 = .ok (.ifCond .ne 13, 3) := by decide +kernel
theorem dA_outs_20 : decode bA_outs 20 = .ok (.new 86, 3) := by decide +kernel
theorem dA_outs_23 : decode bA_outs 23 = .ok (.dup, 1) := by decide +kernel
theorem dA_outs_24 : decode bA_outs 24 = .ok (.ldc 105, 2) := by decide +kernel
theorem dA_outs_26 : decode bA_outs 26 = .ok (.invokespecial 90, 3) := by decide +kernel
theorem dA_outs_29 : decode bA_outs 29 = .ok (.athrow, 1) := by decide +kernel
theorem dA_outs_30 : decode bA_outs 30 = .ok (.aload_n 0, 1) := by decide +kernel
theorem dA_outs_31 : decode bA_outs 31 = .ok (.invokevirtual 91, 3) := by decide +kernel
theorem dA_outs_34 : decode bA_outs 34 = .ok (.lstore_n 2, 1) := by decide +kernel
theorem dA_outs_35 : decode bA_outs 35 = .ok (.lconst 0, 1) := by decide +kernel
theorem dA_outs_36 : decode bA_outs 36 = .ok (.lstore 4, 2) := by decide +kernel
theorem dA_outs_38 : decode bA_outs 38 = .ok (.iconst 0, 1) := by decide +kernel
theorem dA_outs_39 : decode bA_outs 39 = .ok (.istore 6, 2) := by decide +kernel
theorem dA_outs_41 : decode bA_outs 41 = .ok (.iload 6, 2) := by decide +kernel
theorem dA_outs_43 : decode bA_outs 43 = .ok (.bipush 52, 2) := by decide +kernel
theorem dA_outs_45 : decode bA_outs 45 = .ok (.if_icmp .ge 54, 3) := by decide +kernel
theorem dA_outs_48 : decode bA_outs 48 = .ok (.lload_n 2, 1) := by decide +kernel
theorem dA_outs_49 : decode bA_outs 49 = .ok (.lconst 1, 1) := by decide +kernel
theorem dA_outs_50 : decode bA_outs 50 = .ok (.iload 6, 2) := by decide +kernel
theorem dA_outs_52 : decode bA_outs 52 = .ok (.lshl, 1) := by decide +kernel
theorem dA_outs_53 : decode bA_outs 53 = .ok (.land, 1) := by decide +kernel
theorem dA_outs_54 : decode bA_outs 54 = .ok (.lstore 7, 2) := by decide +kernel
theorem dA_outs_56 : decode bA_outs 56 = .ok (.lload 7, 2) := by decide +kernel
theorem dA_outs_58 : decode bA_outs 58 = .ok (.lconst 0, 1) := by decide +kernel
theorem dA_outs_59 : decode bA_outs 59 = .ok (.lcmp, 1) := by decide +kernel
theorem dA_outs_60 : decode bA_outs 60 = .ok (.ifCond .eq 33, 3) := by decide +kernel
theorem dA_outs_63 : decode bA_outs 63 = .ok (.aload_n 0, 1) := by decide +kernel
theorem dA_outs_64 : decode bA_outs 64 = .ok (.getfield 9, 3) := by decide +kernel
theorem dA_outs_67 : decode bA_outs 67 = .ok (.aload_n 0, 1) := by decide +kernel
theorem dA_outs_68 : decode bA_outs 68 = .ok (.getfield 9, 3) := by decide +kernel
theorem dA_outs_71 : decode bA_outs 71 = .ok (.bipush 6, 2) := by decide +kernel
theorem dA_outs_73 : decode bA_outs 73 = .ok (.laload, 1) := by decide +kernel
theorem dA_outs_74 : decode bA_outs 74 = .ok (.lload 7, 2) := by decide +kernel
theorem dA_outs_76 : decode bA_outs 76 = .ok (.lor, 1) := by decide +kernel
theorem dA_outs_77 : decode bA_outs 77 = .ok (.invokestatic 82, 3) := by decide +kernel
theorem dA_outs_80 : decode bA_outs 80 = .ok (.iconst 1, 1) := by decide +kernel
theorem dA_outs_81 : decode bA_outs 81 = .ok (.iload_n 1, 1) := by decide +kernel
theorem dA_outs_82 : decode bA_outs 82 = .ok (.ishl, 1) := by decide +kernel
theorem dA_outs_83 : decode bA_outs 83 = .ok (.if_icmp .ne 10, 3) := by decide +kernel
theorem dA_outs_86 : decode bA_outs 86 = .ok (.lload 4, 2) := by decide +kernel
theorem dA_outs_88 : decode bA_outs 88 = .ok (.lload 7, 2) := by decide +kernel
theorem dA_outs_90 : decode bA_outs 90 = .ok (.lor, 1) := by decide +kernel
theorem dA_outs_91 : decode bA_outs 91 = .ok (.lstore 4, 2) := by decide +kernel
theorem dA_outs_93 : decode bA_outs 93 = .ok (.iinc 6 1, 3) := by decide +kernel
theorem dA_outs_96 : decode bA_outs 96 = .ok (.goto (-55), 3) := by decide +kernel
theorem dA_outs_99 : decode bA_outs 99 = .ok (.lload 4, 2) := by decide +kernel
theorem dA_outs_101 : decode bA_outs 101 = .ok (.lreturn, 1) := by decide +kernel
abbrev bA_share : ByteArray := prog_1_method_18_code
def yA_share : MethodName := ⟨"HandTables", "share", "(II)I"⟩
theorem dA_share_0 : decode bA_share 0 = .ok (.iload_n 1, 1) := by decide +kernel
theorem dA_share_1 : decode bA_share 1 = .ok (.invokestatic 57, 3) := by decide +kernel
theorem dA_share_4 : decode bA_share 4 = .ok (.iload_n 2, 1) := by decide +kernel
theorem dA_share_5 : decode bA_share 5 = .ok (.ifCond .ge 13, 3) := by decide +kernel
theorem dA_share_8 : decode bA_share 8 = .ok (.new 50, 3) := by decide +kernel
theorem dA_share_11 : decode bA_share 11 = .ok (.dup, 1) := by decide +kernel
theorem dA_share_12 : decode bA_share 12 = .ok (.ldc 107, 2) := by decide +kernel
theorem dA_share_14 : decode bA_share 14 = .ok (.invokespecial 54, 3) := by decide +kernel
theorem dA_share_17 : decode bA_share 17 = .ok (.athrow, 1) := by decide +kernel
theorem dA_share_18 : decode bA_share 18 = .ok (.aload_n 0, 1) := by decide +kernel
theorem dA_share_19 : decode bA_share 19 = .ok (.iload_n 1, 1) := by decide +kernel
theorem dA_share_20 : decode bA_share 20 = .ok (.invokevirtual 76, 3) := by decide +kernel
theorem dA_share_23 : decode bA_share 23 = .ok (.aload_n 0, 1) := by decide +kernel
theorem dA_share_24 : decode bA_share 24 = .ok (.invokevirtual 69, 3) := by decide +kernel
theorem dA_share_27 : decode bA_share 27 = .ok (.ifCond .eq 13, 3) := by decide +kernel
theorem dA_share_30 : decode bA_share 30 = .ok (.new 86, 3) := by decide +kernel
theorem dA_share_33 : decode bA_share 33 = .ok (.dup, 1) := by decide +kernel
theorem dA_share_34 : decode bA_share 34 = .ok (.ldc 109, 2) := by decide +kernel
theorem dA_share_36 : decode bA_share 36 = .ok (.invokespecial 90, 3) := by decide +kernel
theorem dA_share_39 : decode bA_share 39 = .ok (.athrow, 1) := by decide +kernel
theorem dA_share_40 : decode bA_share 40 = .ok (.aload_n 0, 1) := by decide +kernel
theorem dA_share_41 : decode bA_share 41 = .ok (.getfield 9, 3) := by decide +kernel
theorem dA_share_44 : decode bA_share 44 = .ok (.aload_n 0, 1) := by decide +kernel
theorem dA_share_45 : decode bA_share 45 = .ok (.getfield 9, 3) := by decide +kernel
theorem dA_share_48 : decode bA_share 48 = .ok (.bipush 6, 2) := by decide +kernel
theorem dA_share_50 : decode bA_share 50 = .ok (.laload, 1) := by decide +kernel
theorem dA_share_51 : decode bA_share 51 = .ok (.invokestatic 82, 3) := by decide +kernel
theorem dA_share_54 : decode bA_share 54 = .ok (.istore_n 3, 1) := by decide +kernel
theorem dA_share_55 : decode bA_share 55 = .ok (.iload_n 3, 1) := by decide +kernel
theorem dA_share_56 : decode bA_share 56 = .ok (.invokestatic 111, 3) := by decide +kernel
theorem dA_share_59 : decode bA_share 59 = .ok (.istore 4, 2) := by decide +kernel
theorem dA_share_61 : decode bA_share 61 = .ok (.iload 4, 2) := by decide +kernel
theorem dA_share_63 : decode bA_share 63 = .ok (.ifCond .eq 11, 3) := by decide +kernel
theorem dA_share_66 : decode bA_share 66 = .ok (.iload_n 3, 1) := by decide +kernel
theorem dA_share_67 : decode bA_share 67 = .ok (.iconst 1, 1) := by decide +kernel
theorem dA_share_68 : decode bA_share 68 = .ok (.iload_n 1, 1) := by decide +kernel
theorem dA_share_69 : decode bA_share 69 = .ok (.ishl, 1) := by decide +kernel
theorem dA_share_70 : decode bA_share 70 = .ok (.iand, 1) := by decide +kernel
theorem dA_share_71 : decode bA_share 71 = .ok (.ifCond .ne 5, 3) := by decide +kernel
theorem dA_share_74 : decode bA_share 74 = .ok (.iconst 0, 1) := by decide +kernel
theorem dA_share_75 : decode bA_share 75 = .ok (.ireturn, 1) := by decide +kernel
theorem dA_share_76 : decode bA_share 76 = .ok (.iload_n 3, 1) := by decide +kernel
theorem dA_share_77 : decode bA_share 77 = .ok (.iconst 1, 1) := by decide +kernel
theorem dA_share_78 : decode bA_share 78 = .ok (.iload_n 1, 1) := by decide +kernel
theorem dA_share_79 : decode bA_share 79 = .ok (.ishl, 1) := by decide +kernel
theorem dA_share_80 : decode bA_share 80 = .ok (.iconst 1, 1) := by decide +kernel
theorem dA_share_81 : decode bA_share 81 = .ok (.isub, 1) := by decide +kernel
theorem dA_share_82 : decode bA_share 82 = .ok (.iand, 1) := by decide +kernel
theorem dA_share_83 : decode bA_share 83 = .ok (.invokestatic 111, 3) := by decide +kernel
theorem dA_share_86 : decode bA_share 86 = .ok (.istore 5, 2) := by decide +kernel
theorem dA_share_88 : decode bA_share 88 = .ok (.iload_n 2, 1) := by decide +kernel
theorem dA_share_89 : decode bA_share 89 = .ok (.iload 4, 2) := by decide +kernel
theorem dA_share_91 : decode bA_share 91 = .ok (.idiv, 1) := by decide +kernel
theorem dA_share_92 : decode bA_share 92 = .ok (.iload 5, 2) := by decide +kernel
theorem dA_share_94 : decode bA_share 94 = .ok (.iload_n 2, 1) := by decide +kernel
theorem dA_share_95 : decode bA_share 95 = .ok (.iload 4, 2) := by decide +kernel
theorem dA_share_97 : decode bA_share 97 = .ok (.irem, 1) := by decide +kernel
theorem dA_share_98 : decode bA_share 98 = .ok (.if_icmp .ge 7, 3) := by decide +kernel
theorem dA_share_101 : decode bA_share 101 = .ok (.iconst 1, 1) := by decide +kernel
theorem dA_share_102 : decode bA_share 102 = .ok (.goto 4, 3) := by decide +kernel
theorem dA_share_105 : decode bA_share 105 = .ok (.iconst 0, 1) := by decide +kernel
theorem dA_share_106 : decode bA_share 106 = .ok (.iadd, 1) := by decide +kernel
theorem dA_share_107 : decode bA_share 107 = .ok (.ireturn, 1) := by decide +kernel
abbrev bI_bitCount : ByteArray := prog_8_method_49_code
def yI_bitCount : MethodName := ⟨"java/lang/Integer", "bitCount", "(I)I"⟩
theorem dI_bitCount_0 : decode bI_bitCount 0 = .ok (.iload_n 0, 1) := by decide +kernel
theorem dI_bitCount_1 : decode bI_bitCount 1 = .ok (.iload_n 0, 1) := by decide +kernel
theorem dI_bitCount_2 : decode bI_bitCount 2 = .ok (.iconst 1, 1) := by decide +kernel
theorem dI_bitCount_3 : decode bI_bitCount 3 = .ok (.iushr, 1) := by decide +kernel
theorem dI_bitCount_4 : decode bI_bitCount 4 = .ok (.ldc_w 265, 3) := by decide +kernel
theorem dI_bitCount_7 : decode bI_bitCount 7 = .ok (.iand, 1) := by decide +kernel
theorem dI_bitCount_8 : decode bI_bitCount 8 = .ok (.isub, 1) := by decide +kernel
theorem dI_bitCount_9 : decode bI_bitCount 9 = .ok (.istore_n 0, 1) := by decide +kernel
theorem dI_bitCount_10 : decode bI_bitCount 10 = .ok (.iload_n 0, 1) := by decide +kernel
theorem dI_bitCount_11 : decode bI_bitCount 11 = .ok (.ldc_w 266, 3) := by decide +kernel
theorem dI_bitCount_14 : decode bI_bitCount 14 = .ok (.iand, 1) := by decide +kernel
theorem dI_bitCount_15 : decode bI_bitCount 15 = .ok (.iload_n 0, 1) := by decide +kernel
theorem dI_bitCount_16 : decode bI_bitCount 16 = .ok (.iconst 2, 1) := by decide +kernel
theorem dI_bitCount_17 : decode bI_bitCount 17 = .ok (.iushr, 1) := by decide +kernel
theorem dI_bitCount_18 : decode bI_bitCount 18 = .ok (.ldc_w 266, 3) := by decide +kernel
theorem dI_bitCount_21 : decode bI_bitCount 21 = .ok (.iand, 1) := by decide +kernel
theorem dI_bitCount_22 : decode bI_bitCount 22 = .ok (.iadd, 1) := by decide +kernel
theorem dI_bitCount_23 : decode bI_bitCount 23 = .ok (.istore_n 0, 1) := by decide +kernel
theorem dI_bitCount_24 : decode bI_bitCount 24 = .ok (.iload_n 0, 1) := by decide +kernel
theorem dI_bitCount_25 : decode bI_bitCount 25 = .ok (.iload_n 0, 1) := by decide +kernel
theorem dI_bitCount_26 : decode bI_bitCount 26 = .ok (.iconst 4, 1) := by decide +kernel
theorem dI_bitCount_27 : decode bI_bitCount 27 = .ok (.iushr, 1) := by decide +kernel
theorem dI_bitCount_28 : decode bI_bitCount 28 = .ok (.iadd, 1) := by decide +kernel
theorem dI_bitCount_29 : decode bI_bitCount 29 = .ok (.ldc_w 267, 3) := by decide +kernel
theorem dI_bitCount_32 : decode bI_bitCount 32 = .ok (.iand, 1) := by decide +kernel
theorem dI_bitCount_33 : decode bI_bitCount 33 = .ok (.istore_n 0, 1) := by decide +kernel
theorem dI_bitCount_34 : decode bI_bitCount 34 = .ok (.iload_n 0, 1) := by decide +kernel
theorem dI_bitCount_35 : decode bI_bitCount 35 = .ok (.iload_n 0, 1) := by decide +kernel
theorem dI_bitCount_36 : decode bI_bitCount 36 = .ok (.bipush 8, 2) := by decide +kernel
theorem dI_bitCount_38 : decode bI_bitCount 38 = .ok (.iushr, 1) := by decide +kernel
theorem dI_bitCount_39 : decode bI_bitCount 39 = .ok (.iadd, 1) := by decide +kernel
theorem dI_bitCount_40 : decode bI_bitCount 40 = .ok (.istore_n 0, 1) := by decide +kernel
theorem dI_bitCount_41 : decode bI_bitCount 41 = .ok (.iload_n 0, 1) := by decide +kernel
theorem dI_bitCount_42 : decode bI_bitCount 42 = .ok (.iload_n 0, 1) := by decide +kernel
theorem dI_bitCount_43 : decode bI_bitCount 43 = .ok (.bipush 16, 2) := by decide +kernel
theorem dI_bitCount_45 : decode bI_bitCount 45 = .ok (.iushr, 1) := by decide +kernel
theorem dI_bitCount_46 : decode bI_bitCount 46 = .ok (.iadd, 1) := by decide +kernel
theorem dI_bitCount_47 : decode bI_bitCount 47 = .ok (.istore_n 0, 1) := by decide +kernel
theorem dI_bitCount_48 : decode bI_bitCount 48 = .ok (.iload_n 0, 1) := by decide +kernel
theorem dI_bitCount_49 : decode bI_bitCount 49 = .ok (.bipush 63, 2) := by decide +kernel
theorem dI_bitCount_51 : decode bI_bitCount 51 = .ok (.iand, 1) := by decide +kernel
theorem dI_bitCount_52 : decode bI_bitCount 52 = .ok (.ireturn, 1) := by decide +kernel
end
section
/-! One list of words for all methods: the good words of the tables; pure contracts (the heap stays); contracts that may end by a throw. -/
def gw : List Cond := lw_tbl.filter goodWord
theorem gw_mem {w : Cond} (k : Nat) (h : lw_tbl[k]? = some w) (hg : goodWord w = true) : w ∈ gw := List.mem_filter.mpr ⟨List.mem_of_getElem? h, hg⟩
abbrev wd (y : MethodName) (b : ByteArray) (n : Nat) (r : Option FieldType) : List Cond := Cond.code y b n r :: gw
theorem wd_in {y : MethodName} {b : ByteArray} {n : Nat} {r : Option FieldType} {w : Cond} (h : w ∈ gw) : w ∈ wd y b n r := List.mem_cons_of_mem _ h
theorem gw_good {w : Cond} (h : w ∈ gw) : (w.onTables && w.keeps) = true ∨ ∃ ty, w = .arrayClass ty := good_of_word (List.mem_filter.mp h).2
/-- the callee's words are among the caller's -/
theorem wd_good {y y2 : MethodName} {b b2 : ByteArray} {n n2 : Nat} {r r2 : Option FieldType} (h : Cond.code y2 b2 n2 r2 ∈ gw) : GoodIn (wd y b n r) (wd y2 b2 n2 r2) := by
  intro w hw
  rcases List.mem_cons.mp hw with e | e
  · subst e
    exact ⟨wd_in h, gw_good h⟩
  · exact ⟨wd_in e, gw_good e⟩
def rmD (d c n : Nat) : Room := { frames := d, cells := c, slots := n, locals := 70 * d }
/-- a pure answer: the heap stays -/
def pu_Q (r : Value) : Array Value → State → Outcome → State → Prop := fun _ st o t => o = .returned (some r) ∧ t.heap = st.heap
/-- a pure method's contract: arguments av, a fact B of the heap and the tables, the answer r; d: its frames -/
def pu_M (l : Launch) (y : MethodName) (b : ByteArray) (n : Nat) (ret : Option FieldType) (d : Nat) (av : List Value) (B : State → Prop) (r : Value) : Prop :=
  Met l y (wd y b n ret) (rmD d 0 0) (va_Pc av B) (pu_Q r) 0 0 (fun _ => False)
/-- a fact that the frames don't touch, and that warmer tables keep -/
def bl_F (B : State → Prop) : Prop := ∀ u U : State, u.WarmedH U.vm → U.heap = u.heap → B u → B U
theorem bl_T : bl_F (fun _ => True) := fun _ _ _ _ _ => trivial
theorem bl_blind {B : State → Prop} {av : List Value} (h : bl_F B) : FrameBlind (va_Pc av B) := fun a U g mk q => ⟨q.1, h U (U.calling g mk a) (State.WarmedH.refl U) rfl q.2⟩
section PU
variable {p : Program} {l : Launch} {e : Env} {R : Room} {s : State} {m : MethodId} {args : Array Value} {below : List Frame} {meth : Method} {c : Code} {H : Heap} {locs : List Loc} {cells slots : Nat} {Q : State → Prop}
variable {cc b : ByteArray} {pc nL n d index : Nat} {ls : Array Slot} {rest : List Value} {own : String} {y : MethodName} {ret : Option FieldType} {av : List Value} {B : State → Prop}
theorem pu_iret {r v : Int32} (hexec : p.tables.exec = Jvm.exec) (hb : c.code = cc) (hr : meth.sig.returnType = some .int) (hlocks : meth.locks = false) (hdg : decode cc pc = .ok (.ireturn, 1)) (hv : v = r) :
    W p l e R s m args below meth c s.heap [] 0 0 (MQ below (pu_Q (.int r)) args s 0 0 (fun _ => False)) (F0 m pc ls [.int v]) := by
  subst hv
  exact W.iret hexec hb hr (fun t ht _ => ⟨rfl, ht⟩) (fun q h => by cases h) hdg hlocks
theorem pu_lret {r v : Int64} (hexec : p.tables.exec = Jvm.exec) (hb : c.code = cc) (hr : meth.sig.returnType = some .long) (hlocks : meth.locks = false) (hdg : decode cc pc = .ok (.lreturn, 1)) (hv : v = r) :
    W p l e R s m args below meth c s.heap [] 0 0 (MQ below (pu_Q (.long r)) args s 0 0 (fun _ => False)) (F0 m pc ls [.long v]) := by
  subst hv
  exact W.lret hexec hb hr (fun t ht _ => ⟨rfl, ht⟩) (fun q h => by cases h) hdg hlocks
/-- behind a pure call nothing has moved -/
theorem pu_call {a : Array Value} {r : Value} {st0 : List Value} (hr : va_Run p l e R s m args below meth c H locs cells slots 0 0 (F0 m pc ls st0) rest (pu_Q r a) (fun _ => False))
    (kk : W p l e R s m args below meth c H locs cells slots Q (F0 m (pc + 3) ls (r :: rest))) : W p l e R s m args below meth c H locs cells slots Q (F0 m pc ls st0) := by
  intro T hT X
  obtain ⟨v, st₀, t, T', L, h0, X', hL, e1, e2, ⟨hv, hh⟩, st⟩ := hr T hT X
  cases hv
  obtain ⟨t2, a1, b1⟩ := kk T' (by rw [e1, hh, h0]) (Stand.forget X' (fun q h => (hL q h).elim))
  exact ⟨t2, st t2 a1, b1⟩
/-- the words of a call of a static method, from one class -/
def cs_W (own : String) (index : Nat) (y : MethodName) (b : ByteArray) (n : Nat) (ret : Option FieldType) (k : Nat) : Prop :=
  Cond.methodLink own index y ∈ gw ∧ Cond.static y ∈ gw ∧ Cond.initialized y.cls ∈ gw ∧ Cond.code y b n ret ∈ gw ∧ (y.cls ≠ "java/lang/invoke/MethodHandle" ∧ y.cls ≠ "java/lang/invoke/VarHandle" ∧ (parseMethodDescriptor y.desc).map (fun d => d.parameters.length) = some k)
theorem pu_S {y0 : MethodName} {b0 : ByteArray} {n0 : Nat} {ret0 : Option FieldType} {r : Value} {k : Nat} (hM : pu_M l y b n ret d av B r) {st0 : List Value} (he : st0 = av.reverse ++ rest) (hc : cs_W own index y b n ret k) (S : CallFix p m c cc nL s args (wd y0 b0 n0 ret0) own) (hBl : bl_F B) (hB : B s) (hH : H = s.heap)
    (hR : (d + 1 ≤ R.frames ∧ 8 + (n + 11) + 70 * d ≤ R.locals)) (hl : ls.size = nL) (hk : av.length = k) (hst : (rest.map fun v => v.category).sum ≤ 8) (hf : cells ≤ R.cells ∧ slots ≤ R.slots) (hdg : decode cc pc = .ok (.invokestatic index, 3))
    (kk : W p l e R s m args below meth c H locs cells slots Q (F0 m (pc + 3) ls (r :: rest))) : W p l e R s m args below meth c H locs cells slots Q (F0 m pc ls st0) := by
  obtain ⟨w1, w2, w3, w4, w5⟩ := hc
  subst he
  refine pu_call (va_runS (As := av) (rest := rest) S hM (va_cwS k S.2.2.2.2 (fun w hw => ?_) rfl rfl rfl w5 hR) ⟨bl_blind hBl, fun U hU hW => ⟨rfl, hBl s U hW (by rw [hU, hH]) hB⟩⟩ rfl hk hl rfl (by show 2 * 0 + _ ≤ 8; omega) hdg hf) kk
  unfold va_wsS at hw
  rcases List.mem_append.mp hw with h | h
  · have hg : w ∈ gw := by
      rcases List.mem_cons.mp h with e | h
      · subst e; exact w1
      rcases List.mem_cons.mp h with e | h
      · subst e; exact w2
      rcases List.mem_cons.mp h with e | h
      · subst e; exact w3
      · cases h
    exact ⟨wd_in hg, gw_good hg⟩
  · exact wd_good w4 w h
end PU
end
section
/-! Rows for the walks: shifts by name, a long's compare with its branch, a counter's step; the class's static tables. -/
def ju (x : Int64) (y : Int32) : Int64 := (x.toUInt64 >>> (y.toInt64.toUInt64 &&& Int64.toUInt64 63)).toInt64
def jl (x : Int64) (y : Int32) : Int64 := x <<< (y.toInt64 &&& 63)
def jr (x : Int64) (y : Int32) : Int64 := x >>> (y.toInt64 &&& 63)
def jui (x y : Int32) : Int32 := (x.toUInt32 >>> (y.toUInt32 &&& Int32.toUInt32 31)).toInt32
def jli (x y : Int32) : Int32 := x <<< (y &&& 31)
def jri (x y : Int32) : Int32 := x >>> (y &&& 31)
def jrem (x y : Int32) : Int32 := x - x / y * y
theorem lc_eq {x y : Int64} (h : lg_cmp x y = 0) : x = y := by
  unfold lg_cmp at h
  split at h
  · cases h
  · split at h
    · assumption
    · cases h
theorem lc_ne {x y : Int64} (h : ¬ lg_cmp x y = 0) : ¬ x = y := by
  intro e
  subst e
  apply h
  unfold lg_cmp
  rw [if_neg (by exact Int64.lt_irrefl), if_pos rfl]
section JV
variable {p : Program} {l : Launch} {e : Env} {R : Room} {s : State} {m : MethodId} {args : Array Value} {below : List Frame} {meth : Method} {c : Code} {H : Heap} {locs : List Loc} {cells slots : Nat} {Q : State → Prop}
variable {cc : ByteArray} {pc : Nat} {ls : Array Slot} {rest : List Value}
theorem jv_lushr (hexec : p.tables.exec = Jvm.exec) (hb : c.code = cc) {x : Int64} {y : Int32} (hdg : decode cc pc = .ok (.lushr, 1)) (k : W p l e R s m args below meth c H locs cells slots Q (F0 m (pc + 1) ls (.long (ju x y) :: rest))) : W p l e R s m args below meth c H locs cells slots Q (F0 m pc ls (.int y :: .long x :: rest)) := lv_lushr hexec hb hdg rfl k
theorem jv_lshl (hexec : p.tables.exec = Jvm.exec) (hb : c.code = cc) {x : Int64} {y : Int32} (hdg : decode cc pc = .ok (.lshl, 1)) (k : W p l e R s m args below meth c H locs cells slots Q (F0 m (pc + 1) ls (.long (jl x y) :: rest))) : W p l e R s m args below meth c H locs cells slots Q (F0 m pc ls (.int y :: .long x :: rest)) := lv_lshl hexec hb hdg rfl k
theorem jv_lshr (hexec : p.tables.exec = Jvm.exec) (hb : c.code = cc) {x : Int64} {y : Int32} (hdg : decode cc pc = .ok (.lshr, 1)) (k : W p l e R s m args below meth c H locs cells slots Q (F0 m (pc + 1) ls (.long (jr x y) :: rest))) : W p l e R s m args below meth c H locs cells slots Q (F0 m pc ls (.int y :: .long x :: rest)) := lv_lshr hexec hb hdg rfl k
theorem jv_iushr (hexec : p.tables.exec = Jvm.exec) (hb : c.code = cc) {x y : Int32} (hdg : decode cc pc = .ok (.iushr, 1)) (k : W p l e R s m args below meth c H locs cells slots Q (F0 m (pc + 1) ls (.int (jui x y) :: rest))) : W p l e R s m args below meth c H locs cells slots Q (F0 m pc ls (.int y :: .int x :: rest)) := lv_iushr hexec hb hdg rfl k
theorem jv_ishl (hexec : p.tables.exec = Jvm.exec) (hb : c.code = cc) {x y : Int32} (hdg : decode cc pc = .ok (.ishl, 1)) (k : W p l e R s m args below meth c H locs cells slots Q (F0 m (pc + 1) ls (.int (jli x y) :: rest))) : W p l e R s m args below meth c H locs cells slots Q (F0 m pc ls (.int y :: .int x :: rest)) := lv_ishl hexec hb hdg k
theorem jv_ishr (hexec : p.tables.exec = Jvm.exec) (hb : c.code = cc) {x y : Int32} (hdg : decode cc pc = .ok (.ishr, 1)) (k : W p l e R s m args below meth c H locs cells slots Q (F0 m (pc + 1) ls (.int (jri x y) :: rest))) : W p l e R s m args below meth c H locs cells slots Q (F0 m pc ls (.int y :: .int x :: rest)) := lv_ishr hexec hb hdg k
theorem jv_irem (hexec : p.tables.exec = Jvm.exec) (hb : c.code = cc) {x y : Int32} (hdg : decode cc pc = .ok (.irem, 1)) (hne : ¬ y = 0) (k : W p l e R s m args below meth c H locs cells slots Q (F0 m (pc + 1) ls (.int (jrem x y) :: rest))) : W p l e R s m args below meth c H locs cells slots Q (F0 m pc ls (.int y :: .int x :: rest)) := lv_irem hexec hb hdg hne k
theorem jv_i2l (hexec : p.tables.exec = Jvm.exec) (hb : c.code = cc) {x : Int32} (hdg : decode cc pc = .ok (.i2l, 1)) (k : W p l e R s m args below meth c H locs cells slots Q (F0 m (pc + 1) ls (.long x.toInt64 :: rest))) : W p l e R s m args below meth c H locs cells slots Q (F0 m pc ls (.int x :: rest)) := lv_i2l hexec hb hdg rfl k
theorem jv_l2i (hexec : p.tables.exec = Jvm.exec) (hb : c.code = cc) {x : Int64} (hdg : decode cc pc = .ok (.l2i, 1)) (k : W p l e R s m args below meth c H locs cells slots Q (F0 m (pc + 1) ls (.int x.toInt32 :: rest))) : W p l e R s m args below meth c H locs cells slots Q (F0 m pc ls (.long x :: rest)) := lv_l2i hexec hb hdg rfl k
/-- two longs are compared, and the branch is taken where they are equal -/
theorem jv_lceq (hexec : p.tables.exec = Jvm.exec) (hb : c.code = cc) {x y : Int64} {off : Int} {tgt : Nat} (h1 : decode cc pc = .ok (.lcmp, 1)) (h2 : decode cc (pc + 1) = .ok (.ifCond .eq off, 3)) (ht : ((pc + 1 : Nat) : Int) + off = (tgt : Int))
    (kt : x = y → W p l e R s m args below meth c H locs cells slots Q (F0 m tgt ls rest)) (kf : ¬ x = y → W p l e R s m args below meth c H locs cells slots Q (F0 m (pc + 4) ls rest)) : W p l e R s m args below meth c H locs cells slots Q (F0 m pc ls (.long y :: .long x :: rest)) :=
  W.lcmp hexec hb h1 (lv_if_eq hexec hb h2 ht (fun h => kt (lc_eq h)) (fun h => kf (lc_ne h)))
theorem jv_lcne (hexec : p.tables.exec = Jvm.exec) (hb : c.code = cc) {x y : Int64} {off : Int} {tgt : Nat} (h1 : decode cc pc = .ok (.lcmp, 1)) (h2 : decode cc (pc + 1) = .ok (.ifCond .ne off, 3)) (ht : ((pc + 1 : Nat) : Int) + off = (tgt : Int))
    (kt : ¬ x = y → W p l e R s m args below meth c H locs cells slots Q (F0 m tgt ls rest)) (kf : x = y → W p l e R s m args below meth c H locs cells slots Q (F0 m (pc + 4) ls rest)) : W p l e R s m args below meth c H locs cells slots Q (F0 m pc ls (.long y :: .long x :: rest)) :=
  W.lcmp hexec hb h1 (lv_if_ne hexec hb h2 ht (fun h => kt (lc_ne h)) (fun h => kf (lc_eq h)))
/-- a counter's step: the new number gets a name -/
theorem jv_iinc (hexec : p.tables.exec = Jvm.exec) (hb : c.code = cc) {i nL k : Nat} {n : Int} {x a : Int32} {lv : List (Nat × Value)} (hdg : decode cc pc = .ok (.iinc i n, 3)) (h : lv_has ls nL lv) (hk : lv[k]? = some (i, .int x)) (hn : i < nL) (ha : Int32.ofInt n = a)
    (kk : ∀ (v : Int32), v = x + a → ∀ ls' : Array Slot, lv_has ls' nL ((i, Value.int v) :: lv.filter (fun q => !(q.1 == i) && !(q.1 + 1 == i && q.2.category == 2))) → W p l e R s m args below meth c H locs cells slots Q (F0 m (pc + 3) ls' rest)) : W p l e R s m args below meth c H locs cells slots Q (F0 m pc ls rest) := by
  subst ha
  exact lv_iinc hexec hb hdg h hk rfl hn rfl (fun ls' h' => kk _ rfl ls' h')
end JV
/-! the four tables of the class -/
def l_FIRST : List Int32 := [0, 1277, 4137, 4995, 5853, 5863, 7140, 7296, 7452, 7462]
def l_SETS : List Int32 := [1020, 384, 144, 64, 1020, 4, 24, 4, 4]
def l_STRP : List Int32 := [0, 5, 20, 55, 125, 251, 461, 791, 792, 1286]
def l_CHOOSE : List Int32 := [0, 1, 2, 3, 4, 5, 6, 7, 8, 9, 10, 11, 12, 0, 0, 1, 3, 6, 10, 15, 21, 28, 36, 45, 55, 66, 0, 0, 0, 1, 4, 10, 20, 35, 56, 84, 120, 165, 220, 0, 0, 0, 0, 1, 5, 15, 35, 70, 126, 210, 330, 495, 0, 0, 0, 0, 0, 1, 6, 21, 56, 126, 252, 462, 792]
def ta_A : Nat → Prop := fun _ => False
def ta_1 (n : String) (xs : List Int32) (t : Nat) (U : State) : Prop := va_Z "HandTables" n "[I" (.ref t) ta_A U U.heap ∧ va_T .int t xs.length (fun j => .int (xs.getD j 0)) ta_A U U.heap
def ta_F (U : State) : Prop := (∃ t, ta_1 "FIRST" l_FIRST t U) ∧ (∃ t, ta_1 "SETS" l_SETS t U) ∧ (∃ t, ta_1 "STRAIGHT_PLACES" l_STRP t U) ∧ ∃ t, ta_1 "CHOOSE" l_CHOOSE t U
theorem ta_1m {n : String} {xs : List Int32} {t : Nat} {u U : State} (hvm : u.vm.Alike U.vm) (hh : U.heap = u.heap) (h : ta_1 n xs t u) : ta_1 n xs t U := by
  obtain ⟨h1, h2⟩ := h
  have g1 := va_Z.moved hvm h1
  have g2 := va_T.moved hvm h2
  unfold ta_1
  rw [hh]
  exact ⟨g1, g2⟩
theorem bl_ta : bl_F ta_F := by
  intro u U hvm hh h
  obtain ⟨⟨t1, h1⟩, ⟨t2, h2⟩, ⟨t3, h3⟩, ⟨t4, h4⟩⟩ := h
  exact ⟨⟨t1, ta_1m hvm.alike hh h1⟩, ⟨t2, ta_1m hvm.alike hh h2⟩, ⟨t3, ta_1m hvm.alike hh h3⟩, ⟨t4, ta_1m hvm.alike hh h4⟩⟩
section TA
variable {p : Program} {l : Launch} {e : Env} {R : Room} {s : State} {m : MethodId} {args : Array Value} {below : List Frame} {meth : Method} {c : Code} {cells slots : Nat} {Q : State → Prop}
variable {cc : ByteArray} {pc : Nat} {ls : Array Slot} {rest : List Value}
theorem ta_get (hexec : p.tables.exec = Jvm.exec) (hb : c.code = cc) {n own : String} {xs : List Int32} {t index : Nat} (h : ta_1 n xs t s) (hown : s.vm.findClass own = some m.cls) (hlink : (Cond.fieldLink own index "HandTables" n "[I").before args s = true) (hdg : decode cc pc = .ok (.getstatic index, 3))
    (kk : W p l e R s m args below meth c s.heap [] cells slots Q (F0 m (pc + 3) ls (.ref t :: rest))) : W p l e R s m args below meth c s.heap [] cells slots Q (F0 m pc ls rest) :=
  va_gets hexec hb h.1 va_S.rf hown hlink (fun _ h => h) hdg kk
theorem ta_ld (hexec : p.tables.exec = Jvm.exec) (hb : c.code = cc) {n : String} {xs : List Int32} {t : Nat} (h : ta_1 n xs t s) {i : Int32} (hin : vp_in i xs.length) (hdg : decode cc pc = .ok (.iaload, 1))
    (kk : W p l e R s m args below meth c s.heap [] cells slots Q (F0 m (pc + 1) ls (.int (xs.getD i.toNatClampNeg 0) :: rest))) : W p l e R s m args below meth c s.heap [] cells slots Q (F0 m pc ls (.int i :: .ref t :: rest)) :=
  va_ti hexec hb h.2 va_S.rf hin rfl hdg kk
theorem ta_len (hexec : p.tables.exec = Jvm.exec) (hb : c.code = cc) {n : String} {xs : List Int32} {t : Nat} (h : ta_1 n xs t s) (hdg : decode cc pc = .ok (.arraylength, 1))
    (kk : W p l e R s m args below meth c s.heap [] cells slots Q (F0 m (pc + 1) ls (.int (Int32.ofNat xs.length) :: rest))) : W p l e R s m args below meth c s.heap [] cells slots Q (F0 m pc ls (.ref t :: rest)) :=
  va_tlen hexec hb h.2 va_S.rf rfl hdg kk
end TA
end
section
/-! the class's leaves: bits, shifts, straights, places -/
set_option maxRecDepth 20000 in
theorem kA_A_requireHand : cs_W "HandTables" 20 yA_requireHand bA_requireHand 3 none 1 := ⟨(gw_mem 93 rfl rfl), (gw_mem 94 rfl rfl), (gw_mem 27 rfl rfl), (gw_mem 95 rfl rfl), by decide +kernel⟩
set_option maxRecDepth 20000 in
theorem kA_A_valueOf : cs_W "HandTables" 24 yA_valueOf bA_valueOf 25 (some .int) 1 := ⟨(gw_mem 165 rfl rfl), (gw_mem 166 rfl rfl), (gw_mem 27 rfl rfl), (gw_mem 167 rfl rfl), by decide +kernel⟩
set_option maxRecDepth 20000 in
theorem kA_A_categoryOf : cs_W "HandTables" 28 yA_categoryOf bA_categoryOf 2 (some .int) 1 := ⟨(gw_mem 207 rfl rfl), (gw_mem 208 rfl rfl), (gw_mem 27 rfl rfl), (gw_mem 209 rfl rfl), by decide +kernel⟩
set_option maxRecDepth 20000 in
theorem kA_A_isFiveWorth : cs_W "HandTables" 32 yA_isFiveWorth bA_isFiveWorth 3 (some .boolean) 2 := ⟨(gw_mem 217 rfl rfl), (gw_mem 218 rfl rfl), (gw_mem 27 rfl rfl), (gw_mem 219 rfl rfl), by decide +kernel⟩
set_option maxRecDepth 20000 in
theorem kA_A_requireValue : cs_W "HandTables" 36 yA_requireValue bA_requireValue 1 none 1 := ⟨(gw_mem 227 rfl rfl), (gw_mem 228 rfl rfl), (gw_mem 27 rfl rfl), (gw_mem 229 rfl rfl), by decide +kernel⟩
set_option maxRecDepth 20000 in
theorem kA_A_rowAt : cs_W "HandTables" 43 yA_rowAt bA_rowAt 2 (some .int) 2 := ⟨(gw_mem 231 rfl rfl), (gw_mem 232 rfl rfl), (gw_mem 27 rfl rfl), (gw_mem 233 rfl rfl), by decide +kernel⟩
set_option maxRecDepth 20000 in
theorem kA_A_requireSeat : cs_W "HandTables" 57 yA_requireSeat bA_requireSeat 1 none 1 := ⟨(gw_mem 277 rfl rfl), (gw_mem 278 rfl rfl), (gw_mem 27 rfl rfl), (gw_mem 279 rfl rfl), by decide +kernel⟩
set_option maxRecDepth 20000 in
theorem kA_A_requireCard : cs_W "HandTables" 60 yA_requireCard bA_requireCard 1 none 1 := ⟨(gw_mem 296 rfl rfl), (gw_mem 297 rfl rfl), (gw_mem 27 rfl rfl), (gw_mem 298 rfl rfl), by decide +kernel⟩
set_option maxRecDepth 20000 in
theorem kA_A_leadersOn : cs_W "HandTables" 82 yA_leadersOn bA_leadersOn 7 (some .int) 2 := ⟨(gw_mem 369 rfl rfl), (gw_mem 370 rfl rfl), (gw_mem 27 rfl rfl), (gw_mem 371 rfl rfl), by decide +kernel⟩
set_option maxRecDepth 20000 in
theorem kA_J_bitCount : cs_W "HandTables" 94 yJ_bitCount bJ_bitCount 2 (some .int) 1 := ⟨(gw_mem 69 rfl rfl), (gw_mem 70 rfl rfl), (gw_mem 29 rfl rfl), (gw_mem 71 rfl rfl), by decide +kernel⟩
set_option maxRecDepth 20000 in
theorem kA_A_countBoards : cs_W "HandTables" 101 yA_countBoards bA_countBoards 14 (some .int) 6 := ⟨(gw_mem 393 rfl rfl), (gw_mem 394 rfl rfl), (gw_mem 27 rfl rfl), (gw_mem 395 rfl rfl), by decide +kernel⟩
set_option maxRecDepth 20000 in
theorem kA_I_bitCount : cs_W "HandTables" 111 yI_bitCount bI_bitCount 1 (some .int) 1 := ⟨(gw_mem 416 rfl rfl), (gw_mem 417 rfl rfl), (gw_mem 36 rfl rfl), (gw_mem 418 rfl rfl), by decide +kernel⟩
set_option maxRecDepth 20000 in
theorem kA_A_isOutcome : cs_W "HandTables" 140 yA_isOutcome bA_isOutcome 5 (some .boolean) 3 := ⟨(gw_mem 396 rfl rfl), (gw_mem 397 rfl rfl), (gw_mem 27 rfl rfl), (gw_mem 398 rfl rfl), by decide +kernel⟩
set_option maxRecDepth 20000 in
theorem kA_A_suitedRanks : cs_W "HandTables" 144 yA_suitedRanks bA_suitedRanks 5 (some .long) 1 := ⟨(gw_mem 168 rfl rfl), (gw_mem 169 rfl rfl), (gw_mem 27 rfl rfl), (gw_mem 170 rfl rfl), by decide +kernel⟩
set_option maxRecDepth 20000 in
theorem kA_A_straights : cs_W "HandTables" 148 yA_straights bA_straights 4 (some .long) 1 := ⟨(gw_mem 172 rfl rfl), (gw_mem 173 rfl rfl), (gw_mem 27 rfl rfl), (gw_mem 174 rfl rfl), by decide +kernel⟩
set_option maxRecDepth 20000 in
theorem kA_A_highest : cs_W "HandTables" 151 yA_highest bA_highest 4 (some .int) 1 := ⟨(gw_mem 177 rfl rfl), (gw_mem 178 rfl rfl), (gw_mem 27 rfl rfl), (gw_mem 179 rfl rfl), by decide +kernel⟩
set_option maxRecDepth 20000 in
theorem kA_A_without : cs_W "HandTables" 156 yA_without bA_without 5 (some .long) 2 := ⟨(gw_mem 180 rfl rfl), (gw_mem 181 rfl rfl), (gw_mem 27 rfl rfl), (gw_mem 182 rfl rfl), by decide +kernel⟩
set_option maxRecDepth 20000 in
theorem kA_A_placeOf : cs_W "HandTables" 160 yA_placeOf bA_placeOf 8 (some .int) 2 := ⟨(gw_mem 184 rfl rfl), (gw_mem 185 rfl rfl), (gw_mem 27 rfl rfl), (gw_mem 186 rfl rfl), by decide +kernel⟩
set_option maxRecDepth 20000 in
theorem kA_A_placeBesideStraights : cs_W "HandTables" 164 yA_placeBesideStraights bA_placeBesideStraights 8 (some .int) 1 := ⟨(gw_mem 192 rfl rfl), (gw_mem 193 rfl rfl), (gw_mem 27 rfl rfl), (gw_mem 194 rfl rfl), by decide +kernel⟩
set_option maxRecDepth 20000 in
theorem kA_A_pairsValue : cs_W "HandTables" 167 yA_pairsValue bA_pairsValue 10 (some .int) 2 := ⟨(gw_mem 197 rfl rfl), (gw_mem 198 rfl rfl), (gw_mem 27 rfl rfl), (gw_mem 199 rfl rfl), by decide +kernel⟩
set_option maxRecDepth 20000 in
theorem kA_A_choose : cs_W "HandTables" 171 yA_choose bA_choose 2 (some .int) 2 := ⟨(gw_mem 187 rfl rfl), (gw_mem 188 rfl rfl), (gw_mem 27 rfl rfl), (gw_mem 189 rfl rfl), by decide +kernel⟩
set_option maxRecDepth 20000 in
theorem kA_A_ranksAt : cs_W "HandTables" 180 yA_ranksAt bA_ranksAt 8 (some .long) 2 := ⟨(gw_mem 237 rfl rfl), (gw_mem 238 rfl rfl), (gw_mem 27 rfl rfl), (gw_mem 239 rfl rfl), by decide +kernel⟩
set_option maxRecDepth 20000 in
theorem kA_A_written : cs_W "HandTables" 184 yA_written bA_written 6 (some .int) 2 := ⟨(gw_mem 234 rfl rfl), (gw_mem 235 rfl rfl), (gw_mem 27 rfl rfl), (gw_mem 236 rfl rfl), by decide +kernel⟩
set_option maxRecDepth 20000 in
theorem kA_A_rowBehind : cs_W "HandTables" 187 yA_rowBehind bA_rowBehind 3 (some .int) 2 := ⟨(gw_mem 240 rfl rfl), (gw_mem 241 rfl rfl), (gw_mem 27 rfl rfl), (gw_mem 242 rfl rfl), by decide +kernel⟩
set_option maxRecDepth 20000 in
theorem kA_A_rowOfPairs : cs_W "HandTables" 191 yA_rowOfPairs bA_rowOfPairs 7 (some .int) 1 := ⟨(gw_mem 246 rfl rfl), (gw_mem 247 rfl rfl), (gw_mem 27 rfl rfl), (gw_mem 248 rfl rfl), by decide +kernel⟩
set_option maxRecDepth 20000 in
theorem kA_A_ranksBesideStraights : cs_W "HandTables" 194 yA_ranksBesideStraights bA_ranksBesideStraights 6 (some .long) 1 := ⟨(gw_mem 249 rfl rfl), (gw_mem 250 rfl rfl), (gw_mem 27 rfl rfl), (gw_mem 251 rfl rfl), by decide +kernel⟩
set_option maxRecDepth 20000 in
theorem kA_A_beside : cs_W "HandTables" 198 yA_beside bA_beside 5 (some .long) 2 := ⟨(gw_mem 243 rfl rfl), (gw_mem 244 rfl rfl), (gw_mem 27 rfl rfl), (gw_mem 245 rfl rfl), by decide +kernel⟩
def f_bc (x : Int64) : Int32 :=
  let a := x - (ju x 1 &&& 6148914691236517205)
  let b := (a &&& 3689348814741910323) + (ju a 2 &&& 3689348814741910323)
  let c := (b + ju b 4) &&& 1085102592571150095
  let d := c + ju c 8
  let e := d + ju d 16
  let g := e + ju e 32
  g.toInt32 &&& 127
def f_bi (x : Int32) : Int32 :=
  let a := x - (jui x 1 &&& 1431655765)
  let b := (a &&& 858993459) + (jui a 2 &&& 858993459)
  let c := (b + jui b 4) &&& 252645135
  let d := c + jui c 8
  let e := d + jui d 16
  e &&& 63
def f_straights (r : Int64) : Int64 :=
  let w := jl r 4 ||| ju r 48
  w &&& ju w 4 &&& ju w 8 &&& ju w 12 &&& ju w 16
def f_highest (r : Int64) : Int32 :=
  let a := r ||| ju r 4
  let b := a ||| ju a 8
  let c := b ||| ju b 16
  let d := c ||| ju c 32
  f_bc d - 1
def f_without (r : Int64) (k : Int32) : Int64 :=
  let b := jl 1 (4 * k) - 1
  (r &&& b) ||| (ju r 4 &&& (b ^^^ -1))
def f_beside (r : Int64) (k : Int32) : Int64 :=
  let b := jl 1 (4 * k) - 1
  (r &&& b) ||| jl (r &&& (b ^^^ -1)) 4
def f_choose (t k : Int32) : Int32 := l_CHOOSE.getD ((k - 1) * 13 + t).toNatClampNeg 0
set_option maxHeartbeats 4000000 in
set_option maxRecDepth 100000 in
theorem cJ_bitCount (l : Launch) (x : Int64)  : pu_M l yJ_bitCount bJ_bitCount 2 (some .int) 0 [.long x] (fun _ => True) (.int (f_bc x)) := by
  refine Met.ofW (cc := bJ_bitCount) (maxL := 2) (ret := (some .int)) (by decide) rfl ?_
  intro p e s m args below meth c s₁ BB hml hv
  obtain ⟨rfl, hB⟩ := hv
  have hx := BB.exec
  have hb := BB.bytes
  have hr := BB.returns
  have hlk := BB.notSynchronized
  have hts := atoms_spec (ws := wd yJ_bitCount bJ_bitCount 2 (some .int)) BB.pre
  have hown : s.vm.findClass "java/lang/Long" = some m.cls := findClass_of_methodNamed BB.named
  have hS : CallFix p m c bJ_bitCount 2 s _ (wd yJ_bitCount bJ_bitCount 2 (some .int)) "java/lang/Long" := ⟨hx, hb, hml, hown, hts⟩
  have hl := lv_entry ([.long x]) (n := 2) (Nat.le_of_ble_eq_true rfl)
  rw [lg_entry_eq]
  generalize (lg_sl ([.long x]) ++ List.replicate (2 - (lg_sl ([.long x])).length) Slot.unset).toArray = ls at hl ⊢
  have hl : lv_has ls 2 [(0, .long x)] := hl
  refine lv_lload_n hx hb dJ_bitCount_0 rfl (lv_at hl 0 rfl) ?_
  refine lv_lload_n hx hb dJ_bitCount_1 rfl (lv_at hl 0 rfl) ?_
  refine lv_iconst (v := 1) hx hb dJ_bitCount_2 (by decide) ?_
  refine jv_lushr hx hb dJ_bitCount_3 ?_
  refine lv_ldc2 (v := 6148914691236517205) hx hb hown (hts _ (wd_in (gw_mem 72 rfl rfl))) dJ_bitCount_4 ?_
  refine lv_land hx hb dJ_bitCount_7 ?_
  refine lv_lsub hx hb dJ_bitCount_8 ?_
  refine lv_topl (fun x1 ex1 => ?_)
  refine lv_lstore_n (lv' := [(0, .long x1)]) hx hb dJ_bitCount_9 rfl hl (by decide) rfl (fun ls hl => ?_)
  refine lv_lload_n hx hb dJ_bitCount_10 rfl (lv_at hl 0 rfl) ?_
  refine lv_ldc2 (v := 3689348814741910323) hx hb hown (hts _ (wd_in (gw_mem 73 rfl rfl))) dJ_bitCount_11 ?_
  refine lv_land hx hb dJ_bitCount_14 ?_
  refine lv_lload_n hx hb dJ_bitCount_15 rfl (lv_at hl 0 rfl) ?_
  refine lv_iconst (v := 2) hx hb dJ_bitCount_16 (by decide) ?_
  refine jv_lushr hx hb dJ_bitCount_17 ?_
  refine lv_ldc2 (v := 3689348814741910323) hx hb hown (hts _ (wd_in (gw_mem 73 rfl rfl))) dJ_bitCount_18 ?_
  refine lv_land hx hb dJ_bitCount_21 ?_
  refine lv_ladd hx hb dJ_bitCount_22 ?_
  refine lv_topl (fun x2 ex2 => ?_)
  refine lv_lstore_n (lv' := [(0, .long x2)]) hx hb dJ_bitCount_23 rfl hl (by decide) rfl (fun ls hl => ?_)
  refine lv_lload_n hx hb dJ_bitCount_24 rfl (lv_at hl 0 rfl) ?_
  refine lv_lload_n hx hb dJ_bitCount_25 rfl (lv_at hl 0 rfl) ?_
  refine lv_iconst (v := 4) hx hb dJ_bitCount_26 (by decide) ?_
  refine jv_lushr hx hb dJ_bitCount_27 ?_
  refine lv_ladd hx hb dJ_bitCount_28 ?_
  refine lv_ldc2 (v := 1085102592571150095) hx hb hown (hts _ (wd_in (gw_mem 74 rfl rfl))) dJ_bitCount_29 ?_
  refine lv_land hx hb dJ_bitCount_32 ?_
  refine lv_topl (fun x3 ex3 => ?_)
  refine lv_lstore_n (lv' := [(0, .long x3)]) hx hb dJ_bitCount_33 rfl hl (by decide) rfl (fun ls hl => ?_)
  refine lv_lload_n hx hb dJ_bitCount_34 rfl (lv_at hl 0 rfl) ?_
  refine lv_lload_n hx hb dJ_bitCount_35 rfl (lv_at hl 0 rfl) ?_
  refine lv_bipush (v := 8) hx hb dJ_bitCount_36 (by decide) ?_
  refine jv_lushr hx hb dJ_bitCount_38 ?_
  refine lv_ladd hx hb dJ_bitCount_39 ?_
  refine lv_topl (fun x4 ex4 => ?_)
  refine lv_lstore_n (lv' := [(0, .long x4)]) hx hb dJ_bitCount_40 rfl hl (by decide) rfl (fun ls hl => ?_)
  refine lv_lload_n hx hb dJ_bitCount_41 rfl (lv_at hl 0 rfl) ?_
  refine lv_lload_n hx hb dJ_bitCount_42 rfl (lv_at hl 0 rfl) ?_
  refine lv_bipush (v := 16) hx hb dJ_bitCount_43 (by decide) ?_
  refine jv_lushr hx hb dJ_bitCount_45 ?_
  refine lv_ladd hx hb dJ_bitCount_46 ?_
  refine lv_topl (fun x5 ex5 => ?_)
  refine lv_lstore_n (lv' := [(0, .long x5)]) hx hb dJ_bitCount_47 rfl hl (by decide) rfl (fun ls hl => ?_)
  refine lv_lload_n hx hb dJ_bitCount_48 rfl (lv_at hl 0 rfl) ?_
  refine lv_lload_n hx hb dJ_bitCount_49 rfl (lv_at hl 0 rfl) ?_
  refine lv_bipush (v := 32) hx hb dJ_bitCount_50 (by decide) ?_
  refine jv_lushr hx hb dJ_bitCount_52 ?_
  refine lv_ladd hx hb dJ_bitCount_53 ?_
  refine lv_topl (fun x6 ex6 => ?_)
  refine lv_lstore_n (lv' := [(0, .long x6)]) hx hb dJ_bitCount_54 rfl hl (by decide) rfl (fun ls hl => ?_)
  refine lv_lload_n hx hb dJ_bitCount_55 rfl (lv_at hl 0 rfl) ?_
  refine jv_l2i hx hb dJ_bitCount_56 ?_
  refine lv_bipush (v := 127) hx hb dJ_bitCount_57 (by decide) ?_
  refine lv_iand hx hb dJ_bitCount_59 ?_
  exact pu_iret hx hb hr hlk dJ_bitCount_60 (by subst ex6 ex5 ex4 ex3 ex2 ex1; rfl)
set_option maxHeartbeats 4000000 in
set_option maxRecDepth 100000 in
theorem cI_bitCount (l : Launch) (x : Int32)  : pu_M l yI_bitCount bI_bitCount 1 (some .int) 0 [.int x] (fun _ => True) (.int (f_bi x)) := by
  refine Met.ofW (cc := bI_bitCount) (maxL := 1) (ret := (some .int)) (by decide) rfl ?_
  intro p e s m args below meth c s₁ BB hml hv
  obtain ⟨rfl, hB⟩ := hv
  have hx := BB.exec
  have hb := BB.bytes
  have hr := BB.returns
  have hlk := BB.notSynchronized
  have hts := atoms_spec (ws := wd yI_bitCount bI_bitCount 1 (some .int)) BB.pre
  have hown : s.vm.findClass "java/lang/Integer" = some m.cls := findClass_of_methodNamed BB.named
  have hS : CallFix p m c bI_bitCount 1 s _ (wd yI_bitCount bI_bitCount 1 (some .int)) "java/lang/Integer" := ⟨hx, hb, hml, hown, hts⟩
  have hl := lv_entry ([.int x]) (n := 1) (Nat.le_of_ble_eq_true rfl)
  rw [lg_entry_eq]
  generalize (lg_sl ([.int x]) ++ List.replicate (1 - (lg_sl ([.int x])).length) Slot.unset).toArray = ls at hl ⊢
  have hl : lv_has ls 1 [(0, .int x)] := hl
  refine lv_iload_n hx hb dI_bitCount_0 rfl (lv_at hl 0 rfl) ?_
  refine lv_iload_n hx hb dI_bitCount_1 rfl (lv_at hl 0 rfl) ?_
  refine lv_iconst (v := 1) hx hb dI_bitCount_2 (by decide) ?_
  refine jv_iushr hx hb dI_bitCount_3 ?_
  refine lv_ldcw (v := 1431655765) hx hb hown (hts _ (wd_in (gw_mem 419 rfl rfl))) dI_bitCount_4 ?_
  refine lv_iand hx hb dI_bitCount_7 ?_
  refine lv_isub hx hb dI_bitCount_8 ?_
  refine lv_topi (fun x1 ex1 => ?_)
  refine lv_istore_n (lv' := [(0, .int x1)]) hx hb dI_bitCount_9 rfl hl (by decide) rfl (fun ls hl => ?_)
  refine lv_iload_n hx hb dI_bitCount_10 rfl (lv_at hl 0 rfl) ?_
  refine lv_ldcw (v := 858993459) hx hb hown (hts _ (wd_in (gw_mem 420 rfl rfl))) dI_bitCount_11 ?_
  refine lv_iand hx hb dI_bitCount_14 ?_
  refine lv_iload_n hx hb dI_bitCount_15 rfl (lv_at hl 0 rfl) ?_
  refine lv_iconst (v := 2) hx hb dI_bitCount_16 (by decide) ?_
  refine jv_iushr hx hb dI_bitCount_17 ?_
  refine lv_ldcw (v := 858993459) hx hb hown (hts _ (wd_in (gw_mem 420 rfl rfl))) dI_bitCount_18 ?_
  refine lv_iand hx hb dI_bitCount_21 ?_
  refine lv_iadd hx hb dI_bitCount_22 ?_
  refine lv_topi (fun x2 ex2 => ?_)
  refine lv_istore_n (lv' := [(0, .int x2)]) hx hb dI_bitCount_23 rfl hl (by decide) rfl (fun ls hl => ?_)
  refine lv_iload_n hx hb dI_bitCount_24 rfl (lv_at hl 0 rfl) ?_
  refine lv_iload_n hx hb dI_bitCount_25 rfl (lv_at hl 0 rfl) ?_
  refine lv_iconst (v := 4) hx hb dI_bitCount_26 (by decide) ?_
  refine jv_iushr hx hb dI_bitCount_27 ?_
  refine lv_iadd hx hb dI_bitCount_28 ?_
  refine lv_ldcw (v := 252645135) hx hb hown (hts _ (wd_in (gw_mem 421 rfl rfl))) dI_bitCount_29 ?_
  refine lv_iand hx hb dI_bitCount_32 ?_
  refine lv_topi (fun x3 ex3 => ?_)
  refine lv_istore_n (lv' := [(0, .int x3)]) hx hb dI_bitCount_33 rfl hl (by decide) rfl (fun ls hl => ?_)
  refine lv_iload_n hx hb dI_bitCount_34 rfl (lv_at hl 0 rfl) ?_
  refine lv_iload_n hx hb dI_bitCount_35 rfl (lv_at hl 0 rfl) ?_
  refine lv_bipush (v := 8) hx hb dI_bitCount_36 (by decide) ?_
  refine jv_iushr hx hb dI_bitCount_38 ?_
  refine lv_iadd hx hb dI_bitCount_39 ?_
  refine lv_topi (fun x4 ex4 => ?_)
  refine lv_istore_n (lv' := [(0, .int x4)]) hx hb dI_bitCount_40 rfl hl (by decide) rfl (fun ls hl => ?_)
  refine lv_iload_n hx hb dI_bitCount_41 rfl (lv_at hl 0 rfl) ?_
  refine lv_iload_n hx hb dI_bitCount_42 rfl (lv_at hl 0 rfl) ?_
  refine lv_bipush (v := 16) hx hb dI_bitCount_43 (by decide) ?_
  refine jv_iushr hx hb dI_bitCount_45 ?_
  refine lv_iadd hx hb dI_bitCount_46 ?_
  refine lv_topi (fun x5 ex5 => ?_)
  refine lv_istore_n (lv' := [(0, .int x5)]) hx hb dI_bitCount_47 rfl hl (by decide) rfl (fun ls hl => ?_)
  refine lv_iload_n hx hb dI_bitCount_48 rfl (lv_at hl 0 rfl) ?_
  refine lv_bipush (v := 63) hx hb dI_bitCount_49 (by decide) ?_
  refine lv_iand hx hb dI_bitCount_51 ?_
  exact pu_iret hx hb hr hlk dI_bitCount_52 (by subst ex5 ex4 ex3 ex2 ex1; rfl)
set_option maxHeartbeats 4000000 in
set_option maxRecDepth 100000 in
theorem cA_straights (l : Launch) (r : Int64)  : pu_M l yA_straights bA_straights 4 (some .long) 0 [.long r] (fun _ => True) (.long (f_straights r)) := by
  refine Met.ofW (cc := bA_straights) (maxL := 4) (ret := (some .long)) (by decide) rfl ?_
  intro p e s m args below meth c s₁ BB hml hv
  obtain ⟨rfl, hB⟩ := hv
  have hx := BB.exec
  have hb := BB.bytes
  have hr := BB.returns
  have hlk := BB.notSynchronized
  have hts := atoms_spec (ws := wd yA_straights bA_straights 4 (some .long)) BB.pre
  have hown : s.vm.findClass "HandTables" = some m.cls := findClass_of_methodNamed BB.named
  have hS : CallFix p m c bA_straights 4 s _ (wd yA_straights bA_straights 4 (some .long)) "HandTables" := ⟨hx, hb, hml, hown, hts⟩
  have hl := lv_entry ([.long r]) (n := 4) (Nat.le_of_ble_eq_true rfl)
  rw [lg_entry_eq]
  generalize (lg_sl ([.long r]) ++ List.replicate (4 - (lg_sl ([.long r])).length) Slot.unset).toArray = ls at hl ⊢
  have hl : lv_has ls 4 [(0, .long r)] := hl
  refine lv_lload_n hx hb dA_straights_0 rfl (lv_at hl 0 rfl) ?_
  refine lv_iconst (v := 4) hx hb dA_straights_1 (by decide) ?_
  refine jv_lshl hx hb dA_straights_2 ?_
  refine lv_lload_n hx hb dA_straights_3 rfl (lv_at hl 0 rfl) ?_
  refine lv_bipush (v := 48) hx hb dA_straights_4 (by decide) ?_
  refine jv_lushr hx hb dA_straights_6 ?_
  refine lv_lor hx hb dA_straights_7 ?_
  refine lv_topl (fun x1 ex1 => ?_)
  refine lv_lstore_n (lv' := [(2, .long x1), (0, .long r)]) hx hb dA_straights_8 rfl hl (by decide) rfl (fun ls hl => ?_)
  refine lv_lload_n hx hb dA_straights_9 rfl (lv_at hl 0 rfl) ?_
  refine lv_lload_n hx hb dA_straights_10 rfl (lv_at hl 0 rfl) ?_
  refine lv_iconst (v := 4) hx hb dA_straights_11 (by decide) ?_
  refine jv_lushr hx hb dA_straights_12 ?_
  refine lv_land hx hb dA_straights_13 ?_
  refine lv_lload_n hx hb dA_straights_14 rfl (lv_at hl 0 rfl) ?_
  refine lv_bipush (v := 8) hx hb dA_straights_15 (by decide) ?_
  refine jv_lushr hx hb dA_straights_17 ?_
  refine lv_land hx hb dA_straights_18 ?_
  refine lv_lload_n hx hb dA_straights_19 rfl (lv_at hl 0 rfl) ?_
  refine lv_bipush (v := 12) hx hb dA_straights_20 (by decide) ?_
  refine jv_lushr hx hb dA_straights_22 ?_
  refine lv_land hx hb dA_straights_23 ?_
  refine lv_lload_n hx hb dA_straights_24 rfl (lv_at hl 0 rfl) ?_
  refine lv_bipush (v := 16) hx hb dA_straights_25 (by decide) ?_
  refine jv_lushr hx hb dA_straights_27 ?_
  refine lv_land hx hb dA_straights_28 ?_
  exact pu_lret hx hb hr hlk dA_straights_29 (by subst ex1; rfl)
set_option maxHeartbeats 4000000 in
set_option maxRecDepth 100000 in
theorem cA_highest (l : Launch) (r : Int64)  : pu_M l yA_highest bA_highest 4 (some .int) 1 [.long r] (fun _ => True) (.int (f_highest r)) := by
  refine Met.ofW (cc := bA_highest) (maxL := 4) (ret := (some .int)) (by decide) rfl ?_
  intro p e s m args below meth c s₁ BB hml hv
  obtain ⟨rfl, hB⟩ := hv
  have hx := BB.exec
  have hb := BB.bytes
  have hr := BB.returns
  have hlk := BB.notSynchronized
  have hts := atoms_spec (ws := wd yA_highest bA_highest 4 (some .int)) BB.pre
  have hown : s.vm.findClass "HandTables" = some m.cls := findClass_of_methodNamed BB.named
  have hS : CallFix p m c bA_highest 4 s _ (wd yA_highest bA_highest 4 (some .int)) "HandTables" := ⟨hx, hb, hml, hown, hts⟩
  have hl := lv_entry ([.long r]) (n := 4) (Nat.le_of_ble_eq_true rfl)
  rw [lg_entry_eq]
  generalize (lg_sl ([.long r]) ++ List.replicate (4 - (lg_sl ([.long r])).length) Slot.unset).toArray = ls at hl ⊢
  have hl : lv_has ls 4 [(0, .long r)] := hl
  refine lv_lload_n hx hb dA_highest_0 rfl (lv_at hl 0 rfl) ?_
  refine lv_lload_n hx hb dA_highest_1 rfl (lv_at hl 0 rfl) ?_
  refine lv_iconst (v := 4) hx hb dA_highest_2 (by decide) ?_
  refine jv_lushr hx hb dA_highest_3 ?_
  refine lv_lor hx hb dA_highest_4 ?_
  refine lv_topl (fun x1 ex1 => ?_)
  refine lv_lstore_n (lv' := [(2, .long x1), (0, .long r)]) hx hb dA_highest_5 rfl hl (by decide) rfl (fun ls hl => ?_)
  refine lv_lload_n hx hb dA_highest_6 rfl (lv_at hl 0 rfl) ?_
  refine lv_lload_n hx hb dA_highest_7 rfl (lv_at hl 0 rfl) ?_
  refine lv_bipush (v := 8) hx hb dA_highest_8 (by decide) ?_
  refine jv_lushr hx hb dA_highest_10 ?_
  refine lv_lor hx hb dA_highest_11 ?_
  refine lv_topl (fun x2 ex2 => ?_)
  refine lv_lstore_n (lv' := [(2, .long x2), (0, .long r)]) hx hb dA_highest_12 rfl hl (by decide) rfl (fun ls hl => ?_)
  refine lv_lload_n hx hb dA_highest_13 rfl (lv_at hl 0 rfl) ?_
  refine lv_lload_n hx hb dA_highest_14 rfl (lv_at hl 0 rfl) ?_
  refine lv_bipush (v := 16) hx hb dA_highest_15 (by decide) ?_
  refine jv_lushr hx hb dA_highest_17 ?_
  refine lv_lor hx hb dA_highest_18 ?_
  refine lv_topl (fun x3 ex3 => ?_)
  refine lv_lstore_n (lv' := [(2, .long x3), (0, .long r)]) hx hb dA_highest_19 rfl hl (by decide) rfl (fun ls hl => ?_)
  refine lv_lload_n hx hb dA_highest_20 rfl (lv_at hl 0 rfl) ?_
  refine lv_lload_n hx hb dA_highest_21 rfl (lv_at hl 0 rfl) ?_
  refine lv_bipush (v := 32) hx hb dA_highest_22 (by decide) ?_
  refine jv_lushr hx hb dA_highest_24 ?_
  refine lv_lor hx hb dA_highest_25 ?_
  refine lv_topl (fun x4 ex4 => ?_)
  refine lv_lstore_n (lv' := [(2, .long x4), (0, .long r)]) hx hb dA_highest_26 rfl hl (by decide) rfl (fun ls hl => ?_)
  refine lv_lload_n hx hb dA_highest_27 rfl (lv_at hl 0 rfl) ?_
  refine pu_S (cJ_bitCount l _) rfl kA_J_bitCount hS bl_T trivial rfl ⟨Nat.le_of_ble_eq_true rfl, Nat.le_of_ble_eq_true rfl⟩ hl.1 rfl (Nat.le_of_ble_eq_true rfl) ⟨Nat.zero_le _, Nat.zero_le _⟩ dA_highest_28 ?_
  refine lv_iconst (v := 1) hx hb dA_highest_31 (by decide) ?_
  refine lv_isub hx hb dA_highest_32 ?_
  exact pu_iret hx hb hr hlk dA_highest_33 (by subst ex4 ex3 ex2 ex1; rfl)
set_option maxHeartbeats 4000000 in
set_option maxRecDepth 100000 in
theorem cA_without (l : Launch) (r : Int64) (k : Int32)  : pu_M l yA_without bA_without 5 (some .long) 0 [.long r, .int k] (fun _ => True) (.long (f_without r k)) := by
  refine Met.ofW (cc := bA_without) (maxL := 5) (ret := (some .long)) (by decide) rfl ?_
  intro p e s m args below meth c s₁ BB hml hv
  obtain ⟨rfl, hB⟩ := hv
  have hx := BB.exec
  have hb := BB.bytes
  have hr := BB.returns
  have hlk := BB.notSynchronized
  have hts := atoms_spec (ws := wd yA_without bA_without 5 (some .long)) BB.pre
  have hown : s.vm.findClass "HandTables" = some m.cls := findClass_of_methodNamed BB.named
  have hS : CallFix p m c bA_without 5 s _ (wd yA_without bA_without 5 (some .long)) "HandTables" := ⟨hx, hb, hml, hown, hts⟩
  have hl := lv_entry ([.long r, .int k]) (n := 5) (Nat.le_of_ble_eq_true rfl)
  rw [lg_entry_eq]
  generalize (lg_sl ([.long r, .int k]) ++ List.replicate (5 - (lg_sl ([.long r, .int k])).length) Slot.unset).toArray = ls at hl ⊢
  have hl : lv_has ls 5 [(0, .long r), (2, .int k)] := hl
  refine lv_lconst (v := 1) hx hb dA_without_0 (by decide) ?_
  refine lv_iconst (v := 4) hx hb dA_without_1 (by decide) ?_
  refine lv_iload_n hx hb dA_without_2 rfl (lv_at hl 1 rfl) ?_
  refine lv_imul hx hb dA_without_3 ?_
  refine jv_lshl hx hb dA_without_4 ?_
  refine lv_lconst (v := 1) hx hb dA_without_5 (by decide) ?_
  refine lv_lsub hx hb dA_without_6 ?_
  refine lv_topl (fun x1 ex1 => ?_)
  refine lv_lstore_n (lv' := [(3, .long x1), (0, .long r), (2, .int k)]) hx hb dA_without_7 rfl hl (by decide) rfl (fun ls hl => ?_)
  refine lv_lload_n hx hb dA_without_8 rfl (lv_at hl 1 rfl) ?_
  refine lv_lload_n hx hb dA_without_9 rfl (lv_at hl 0 rfl) ?_
  refine lv_land hx hb dA_without_10 ?_
  refine lv_lload_n hx hb dA_without_11 rfl (lv_at hl 1 rfl) ?_
  refine lv_iconst (v := 4) hx hb dA_without_12 (by decide) ?_
  refine jv_lushr hx hb dA_without_13 ?_
  refine lv_lload_n hx hb dA_without_14 rfl (lv_at hl 0 rfl) ?_
  refine lv_ldc2 (v := (-1)) hx hb hown (hts _ (wd_in (gw_mem 183 rfl rfl))) dA_without_15 ?_
  refine lv_lxor hx hb dA_without_18 ?_
  refine lv_land hx hb dA_without_19 ?_
  refine lv_lor hx hb dA_without_20 ?_
  exact pu_lret hx hb hr hlk dA_without_21 (by subst ex1; rfl)
set_option maxHeartbeats 4000000 in
set_option maxRecDepth 100000 in
theorem cA_beside (l : Launch) (r : Int64) (k : Int32)  : pu_M l yA_beside bA_beside 5 (some .long) 0 [.long r, .int k] (fun _ => True) (.long (f_beside r k)) := by
  refine Met.ofW (cc := bA_beside) (maxL := 5) (ret := (some .long)) (by decide) rfl ?_
  intro p e s m args below meth c s₁ BB hml hv
  obtain ⟨rfl, hB⟩ := hv
  have hx := BB.exec
  have hb := BB.bytes
  have hr := BB.returns
  have hlk := BB.notSynchronized
  have hts := atoms_spec (ws := wd yA_beside bA_beside 5 (some .long)) BB.pre
  have hown : s.vm.findClass "HandTables" = some m.cls := findClass_of_methodNamed BB.named
  have hS : CallFix p m c bA_beside 5 s _ (wd yA_beside bA_beside 5 (some .long)) "HandTables" := ⟨hx, hb, hml, hown, hts⟩
  have hl := lv_entry ([.long r, .int k]) (n := 5) (Nat.le_of_ble_eq_true rfl)
  rw [lg_entry_eq]
  generalize (lg_sl ([.long r, .int k]) ++ List.replicate (5 - (lg_sl ([.long r, .int k])).length) Slot.unset).toArray = ls at hl ⊢
  have hl : lv_has ls 5 [(0, .long r), (2, .int k)] := hl
  refine lv_lconst (v := 1) hx hb dA_beside_0 (by decide) ?_
  refine lv_iconst (v := 4) hx hb dA_beside_1 (by decide) ?_
  refine lv_iload_n hx hb dA_beside_2 rfl (lv_at hl 1 rfl) ?_
  refine lv_imul hx hb dA_beside_3 ?_
  refine jv_lshl hx hb dA_beside_4 ?_
  refine lv_lconst (v := 1) hx hb dA_beside_5 (by decide) ?_
  refine lv_lsub hx hb dA_beside_6 ?_
  refine lv_topl (fun x1 ex1 => ?_)
  refine lv_lstore_n (lv' := [(3, .long x1), (0, .long r), (2, .int k)]) hx hb dA_beside_7 rfl hl (by decide) rfl (fun ls hl => ?_)
  refine lv_lload_n hx hb dA_beside_8 rfl (lv_at hl 1 rfl) ?_
  refine lv_lload_n hx hb dA_beside_9 rfl (lv_at hl 0 rfl) ?_
  refine lv_land hx hb dA_beside_10 ?_
  refine lv_lload_n hx hb dA_beside_11 rfl (lv_at hl 1 rfl) ?_
  refine lv_lload_n hx hb dA_beside_12 rfl (lv_at hl 0 rfl) ?_
  refine lv_ldc2 (v := (-1)) hx hb hown (hts _ (wd_in (gw_mem 183 rfl rfl))) dA_beside_13 ?_
  refine lv_lxor hx hb dA_beside_16 ?_
  refine lv_land hx hb dA_beside_17 ?_
  refine lv_iconst (v := 4) hx hb dA_beside_18 (by decide) ?_
  refine jv_lshl hx hb dA_beside_19 ?_
  refine lv_lor hx hb dA_beside_20 ?_
  exact pu_lret hx hb hr hlk dA_beside_21 (by subst ex1; rfl)
set_option maxHeartbeats 4000000 in
set_option maxRecDepth 100000 in
theorem cA_choose (l : Launch) (t : Int32) (k : Int32) (hi : vp_in ((k - 1) * 13 + t) l_CHOOSE.length) : pu_M l yA_choose bA_choose 2 (some .int) 0 [.int t, .int k] ta_F (.int (f_choose t k)) := by
  refine Met.ofW (cc := bA_choose) (maxL := 2) (ret := (some .int)) (by decide) rfl ?_
  intro p e s m args below meth c s₁ BB hml hv
  obtain ⟨rfl, hB⟩ := hv
  have hx := BB.exec
  have hb := BB.bytes
  have hr := BB.returns
  have hlk := BB.notSynchronized
  have hts := atoms_spec (ws := wd yA_choose bA_choose 2 (some .int)) BB.pre
  have hown : s.vm.findClass "HandTables" = some m.cls := findClass_of_methodNamed BB.named
  have hS : CallFix p m c bA_choose 2 s _ (wd yA_choose bA_choose 2 (some .int)) "HandTables" := ⟨hx, hb, hml, hown, hts⟩
  obtain ⟨⟨t1, hT1⟩, ⟨t2, hT2⟩, ⟨t3, hT3⟩, ⟨t4, hT4⟩⟩ := id hB
  have hl := lv_entry ([.int t, .int k]) (n := 2) (Nat.le_of_ble_eq_true rfl)
  rw [lg_entry_eq]
  generalize (lg_sl ([.int t, .int k]) ++ List.replicate (2 - (lg_sl ([.int t, .int k])).length) Slot.unset).toArray = ls at hl ⊢
  have hl : lv_has ls 2 [(0, .int t), (1, .int k)] := hl
  refine ta_get hx hb hT4 hown (hts _ (wd_in (gw_mem 190 rfl rfl))) dA_choose_0 ?_
  refine lv_iload_n hx hb dA_choose_3 rfl (lv_at hl 1 rfl) ?_
  refine lv_iconst (v := 1) hx hb dA_choose_4 (by decide) ?_
  refine lv_isub hx hb dA_choose_5 ?_
  refine lv_bipush (v := 13) hx hb dA_choose_6 (by decide) ?_
  refine lv_imul hx hb dA_choose_8 ?_
  refine lv_iload_n hx hb dA_choose_9 rfl (lv_at hl 0 rfl) ?_
  refine lv_iadd hx hb dA_choose_10 ?_
  refine ta_ld hx hb hT4 hi dA_choose_11 ?_
  exact pu_iret hx hb hr hlk dA_choose_12 (by rfl)
end
section
/-! the class's loops over ranks -/
theorem nI_dec (n : Nat) : nI (n + 1) + (-1) = nI n := by
  have := nI_pred n
  rw [← this, Int32.sub_eq_add_neg]
theorem nI_up {N n : Nat} (h : n + 1 ≤ N) : nI (N - (n + 1)) + 1 = nI (N - n) := by
  rw [nI_1]
  congr 1
  omega
def w_lp (r : Int64) : Nat → Int32 → Int32 → Int32
  | 0, a, _ => a
  | n + 1, a, h => if r &&& jl 1 (4 * nI n) = 0 then w_lp r n a h else w_lp r n (a + jli (nI n + 1) h) (h + 4)
def f_written (r : Int64) (k : Int32) : Int32 := w_lp r 13 0 (4 * (k + 1))
def s_lp (r : Int64) : Nat → Int64
  | 0 => 0
  | n + 1 => if f_bc (ju r (nI (4 - (n + 1))) &&& 300239975158033) < 5 then s_lp r n else ju r (nI (4 - (n + 1))) &&& 300239975158033
def f_suited (r : Int64) : Int64 := s_lp r 4
def c_lp (v : Int32) : Nat → Int32
  | 0 => nI 0
  | n + 1 => if l_FIRST.getD (nI (n + 1)).toNatClampNeg 0 ≤ v then nI (n + 1) else c_lp v n
def f_cat (v : Int32) : Int32 := c_lp v 8
set_option maxHeartbeats 4000000 in
set_option maxRecDepth 100000 in
theorem cA_written (l : Launch) (r : Int64) (k : Int32)  : pu_M l yA_written bA_written 6 (some .int) 0 [.long r, .int k] (fun _ => True) (.int (f_written r k)) := by
  refine Met.ofW (cc := bA_written) (maxL := 6) (ret := (some .int)) (by decide) rfl ?_
  intro p e s m args below meth c s₁ BB hml hv
  obtain ⟨rfl, hB⟩ := hv
  have hx := BB.exec
  have hb := BB.bytes
  have hr := BB.returns
  have hlk := BB.notSynchronized
  have hts := atoms_spec (ws := wd yA_written bA_written 6 (some .int)) BB.pre
  have hown : s.vm.findClass "HandTables" = some m.cls := findClass_of_methodNamed BB.named
  have hS : CallFix p m c bA_written 6 s _ (wd yA_written bA_written 6 (some .int)) "HandTables" := ⟨hx, hb, hml, hown, hts⟩
  have hl := lv_entry ([.long r, .int k]) (n := 6) (Nat.le_of_ble_eq_true rfl)
  rw [lg_entry_eq]
  generalize (lg_sl ([.long r, .int k]) ++ List.replicate (6 - (lg_sl ([.long r, .int k])).length) Slot.unset).toArray = ls at hl ⊢
  have hl : lv_has ls 6 [(0, .long r), (2, .int k)] := hl
  refine lv_iconst (v := 0) hx hb dA_written_0 (by decide) ?_
  refine lv_topi (fun x1 ex1 => ?_)
  refine lv_istore_n (lv' := [(3, .int x1), (0, .long r), (2, .int k)]) hx hb dA_written_1 rfl hl (by decide) rfl (fun ls hl => ?_)
  refine lv_iconst (v := 4) hx hb dA_written_2 (by decide) ?_
  refine lv_iload_n hx hb dA_written_3 rfl (lv_at hl 2 rfl) ?_
  refine lv_iconst (v := 1) hx hb dA_written_4 (by decide) ?_
  refine lv_iadd hx hb dA_written_5 ?_
  refine lv_imul hx hb dA_written_6 ?_
  refine lv_topi (fun x2 ex2 => ?_)
  refine lv_istore (lv' := [(4, .int x2), (3, .int x1), (0, .long r), (2, .int k)]) hx hb dA_written_7 hl (by decide) rfl (fun ls hl => ?_)
  refine lv_bipush (v := 12) hx hb dA_written_9 (by decide) ?_
  refine lv_topi (fun x3 ex3 => ?_)
  refine lv_istore (lv' := [(5, .int x3), (4, .int x2), (3, .int x1), (0, .long r), (2, .int k)]) hx hb dA_written_11 hl (by decide) rfl (fun ls hl => ?_)
  have hloop : ∀ (n : Nat) (a : Int32) (h : Int32) (ls : Array Slot), lv_has ls 6 [(5, .int (nI n + (-1))), (3, .int a), (4, .int h), (0, .long r)] → (n ≤ 13) → (∀ ls : Array Slot, lv_has ls 6 [(3, .int (w_lp r n a h))] → W p l e (headSpec (wd yA_written bA_written 6 (some .int)) (rmD 0 0 0)).room s m ([.long r, .int k]).toArray below meth c s.heap [] 0 0 (MQ below (pu_Q (.int (f_written r k))) ([.long r, .int k]).toArray s 0 0 (fun _ => False)) (F0 m 50 ls [])) → W p l e (headSpec (wd yA_written bA_written 6 (some .int)) (rmD 0 0 0)).room s m ([.long r, .int k]).toArray below meth c s.heap [] 0 0 (MQ below (pu_Q (.int (f_written r k))) ([.long r, .int k]).toArray s 0 0 (fun _ => False)) (F0 m 13 ls []) := by
    intro n
    induction n with
    | zero =>
      intro a h ls hl hn K
      refine lv_iload hx hb dA_written_13 (lv_at hl 0 rfl) ?_
      refine lv_if_lt (tgt := 50) hx hb dA_written_15 (by decide) (fun hc4 => ?_) (fun hc4 => ?_)
      · simp only [w_lp] at K
        exact K _ (lv_sub hl [1] rfl)
      · exact absurd (by decide) hc4
    | succ n ih =>
      intro a h ls hl hn K
      have hl : lv_has ls 6 [(5, .int (nI n)), (3, .int a), (4, .int h), (0, .long r)] := by rw [nI_dec] at hl; exact hl
      refine lv_iload hx hb dA_written_13 (lv_at hl 0 rfl) ?_
      refine lv_if_lt (tgt := 50) hx hb dA_written_15 (by decide) (fun hc5 => ?_) (fun hc5 => ?_)
      · exact absurd hc5 (nI_pos (by omega))
      · refine lv_lload_n hx hb dA_written_18 rfl (lv_at hl 3 rfl) ?_
        refine lv_lconst (v := 1) hx hb dA_written_19 (by decide) ?_
        refine lv_iconst (v := 4) hx hb dA_written_20 (by decide) ?_
        refine lv_iload hx hb dA_written_21 (lv_at hl 0 rfl) ?_
        refine lv_imul hx hb dA_written_23 ?_
        refine jv_lshl hx hb dA_written_24 ?_
        refine lv_land hx hb dA_written_25 ?_
        refine lv_lconst (v := 0) hx hb dA_written_26 (by decide) ?_
        refine jv_lceq (tgt := 44) hx hb dA_written_27 dA_written_28 (by decide) (fun hc6 => ?_) (fun hc6 => ?_)
        · refine jv_iinc (a := (-1)) hx hb dA_written_44 hl (k := 0) rfl (by decide) (by decide) (fun x7 ex7 ls hl => ?_)
          have hl : lv_has ls 6 [(5, .int x7), (3, .int a), (4, .int h), (0, .long r)] := hl
          refine lv_goto (tgt := 13) hx hb dA_written_47 (by decide) ?_
          subst ex7
          simp only [w_lp, if_pos hc6] at K
          exact ih _ _ ls (lv_sub hl [0, 1, 2, 3] rfl) (by omega) K
        · refine lv_iload_n hx hb dA_written_31 rfl (lv_at hl 1 rfl) ?_
          refine lv_iload hx hb dA_written_32 (lv_at hl 0 rfl) ?_
          refine lv_iconst (v := 1) hx hb dA_written_34 (by decide) ?_
          refine lv_iadd hx hb dA_written_35 ?_
          refine lv_iload hx hb dA_written_36 (lv_at hl 2 rfl) ?_
          refine jv_ishl hx hb dA_written_38 ?_
          refine lv_iadd hx hb dA_written_39 ?_
          refine lv_topi (fun x8 ex8 => ?_)
          refine lv_istore_n (lv' := [(3, .int x8), (5, .int (nI n)), (4, .int h), (0, .long r)]) hx hb dA_written_40 rfl hl (by decide) rfl (fun ls hl => ?_)
          refine jv_iinc (a := 4) hx hb dA_written_41 hl (k := 2) rfl (by decide) (by decide) (fun x9 ex9 ls hl => ?_)
          have hl : lv_has ls 6 [(4, .int x9), (3, .int x8), (5, .int (nI n)), (0, .long r)] := hl
          refine jv_iinc (a := (-1)) hx hb dA_written_44 hl (k := 2) rfl (by decide) (by decide) (fun x10 ex10 ls hl => ?_)
          have hl : lv_has ls 6 [(5, .int x10), (4, .int x9), (3, .int x8), (0, .long r)] := hl
          refine lv_goto (tgt := 13) hx hb dA_written_47 (by decide) ?_
          subst ex10 ex9 ex8
          simp only [w_lp, if_neg hc6] at K
          exact ih _ _ ls (lv_sub hl [0, 2, 1, 3] rfl) (by omega) K
  refine hloop 13 x1 x2 ls (by have h9 := lv_sub hl [0, 2, 1, 3] rfl; subst ex3; exact h9) (by decide) (fun ls hl => ?_)
  clear hloop
  obtain ⟨y11, ey11⟩ : ∃ z, z = (w_lp r 13 x1 x2) := ⟨_, rfl⟩
  rw [← ey11] at hl
  refine lv_iload_n hx hb dA_written_50 rfl (lv_at hl 0 rfl) ?_
  exact pu_iret hx hb hr hlk dA_written_51 (by subst ey11 ex3 ex2 ex1; rfl)
set_option maxHeartbeats 4000000 in
set_option maxRecDepth 100000 in
theorem cA_suitedRanks (l : Launch) (r : Int64)  : pu_M l yA_suitedRanks bA_suitedRanks 5 (some .long) 1 [.long r] (fun _ => True) (.long (f_suited r)) := by
  refine Met.ofW (cc := bA_suitedRanks) (maxL := 5) (ret := (some .long)) (by decide) rfl ?_
  intro p e s m args below meth c s₁ BB hml hv
  obtain ⟨rfl, hB⟩ := hv
  have hx := BB.exec
  have hb := BB.bytes
  have hr := BB.returns
  have hlk := BB.notSynchronized
  have hts := atoms_spec (ws := wd yA_suitedRanks bA_suitedRanks 5 (some .long)) BB.pre
  have hown : s.vm.findClass "HandTables" = some m.cls := findClass_of_methodNamed BB.named
  have hS : CallFix p m c bA_suitedRanks 5 s _ (wd yA_suitedRanks bA_suitedRanks 5 (some .long)) "HandTables" := ⟨hx, hb, hml, hown, hts⟩
  have hl := lv_entry ([.long r]) (n := 5) (Nat.le_of_ble_eq_true rfl)
  rw [lg_entry_eq]
  generalize (lg_sl ([.long r]) ++ List.replicate (5 - (lg_sl ([.long r])).length) Slot.unset).toArray = ls at hl ⊢
  have hl : lv_has ls 5 [(0, .long r)] := hl
  refine lv_iconst (v := 0) hx hb dA_suitedRanks_0 (by decide) ?_
  refine lv_topi (fun x1 ex1 => ?_)
  refine lv_istore_n (lv' := [(2, .int x1), (0, .long r)]) hx hb dA_suitedRanks_1 rfl hl (by decide) rfl (fun ls hl => ?_)
  have hloop : ∀ (n : Nat)  (ls : Array Slot), lv_has ls 5 [(2, .int (nI (4 - n))), (0, .long r)] → (n ≤ 4) → (f_suited r = s_lp r n) → W p l e (headSpec (wd yA_suitedRanks bA_suitedRanks 5 (some .long)) (rmD 1 0 0)).room s m ([.long r]).toArray below meth c s.heap [] 0 0 (MQ below (pu_Q (.long (f_suited r))) ([.long r]).toArray s 0 0 (fun _ => False)) (F0 m 2 ls []) := by
    intro n
    induction n with
    | zero =>
      intro  ls hl hn hF
      refine lv_iload_n hx hb dA_suitedRanks_2 rfl (lv_at hl 0 rfl) ?_
      refine lv_iconst (v := 4) hx hb dA_suitedRanks_3 (by decide) ?_
      refine lv_icmp_ge (tgt := 31) hx hb dA_suitedRanks_4 (by decide) (fun hc2 => ?_) (fun hc2 => ?_)
      · refine lv_lconst (v := 0) hx hb dA_suitedRanks_31 (by decide) ?_
        exact pu_lret hx hb hr hlk dA_suitedRanks_32 (by subst ex1; rw [hF]; rfl)
      · exact absurd (by decide) hc2
    | succ n ih =>
      intro  ls hl hn hF
      refine lv_iload_n hx hb dA_suitedRanks_2 rfl (lv_at hl 0 rfl) ?_
      refine lv_iconst (v := 4) hx hb dA_suitedRanks_3 (by decide) ?_
      refine lv_icmp_ge (tgt := 31) hx hb dA_suitedRanks_4 (by decide) (fun hc3 => ?_) (fun hc3 => ?_)
      · exact absurd hc3 (nI_ge (b := 4) (by omega) (by decide))
      · refine lv_lload_n hx hb dA_suitedRanks_7 rfl (lv_at hl 1 rfl) ?_
        refine lv_iload_n hx hb dA_suitedRanks_8 rfl (lv_at hl 0 rfl) ?_
        refine jv_lushr hx hb dA_suitedRanks_9 ?_
        refine lv_ldc2 (v := 300239975158033) hx hb hown (hts _ (wd_in (gw_mem 171 rfl rfl))) dA_suitedRanks_10 ?_
        refine lv_land hx hb dA_suitedRanks_13 ?_
        refine lv_topl (fun x4 ex4 => ?_)
        refine lv_lstore_n (lv' := [(3, .long x4), (2, .int (nI (4 - (n + 1)))), (0, .long r)]) hx hb dA_suitedRanks_14 rfl hl (by decide) rfl (fun ls hl => ?_)
        refine lv_lload_n hx hb dA_suitedRanks_15 rfl (lv_at hl 0 rfl) ?_
        refine pu_S (cJ_bitCount l _) rfl kA_J_bitCount hS bl_T trivial rfl ⟨Nat.le_of_ble_eq_true rfl, Nat.le_of_ble_eq_true rfl⟩ hl.1 rfl (Nat.le_of_ble_eq_true rfl) ⟨Nat.zero_le _, Nat.zero_le _⟩ dA_suitedRanks_16 ?_
        refine lv_iconst (v := 5) hx hb dA_suitedRanks_19 (by decide) ?_
        refine lv_icmp_lt (tgt := 25) hx hb dA_suitedRanks_20 (by decide) (fun hc5 => ?_) (fun hc5 => ?_)
        · refine jv_iinc (a := 1) hx hb dA_suitedRanks_25 hl (k := 1) rfl (by decide) (by decide) (fun x6 ex6 ls hl => ?_)
          have hl : lv_has ls 5 [(2, .int x6), (3, .long x4), (0, .long r)] := hl
          refine lv_goto (tgt := 2) hx hb dA_suitedRanks_28 (by decide) ?_
          rw [nI_up (by omega)] at ex6
          subst ex6 ex4
          exact ih  ls (lv_sub hl [0, 2] rfl) (by omega) (by rw [hF]; simp only [s_lp, if_pos hc5])
        · refine lv_lload_n hx hb dA_suitedRanks_23 rfl (lv_at hl 0 rfl) ?_
          exact pu_lret hx hb hr hlk dA_suitedRanks_24 (by subst ex4 ex1; rw [hF]; simp only [s_lp, if_neg hc5])
  exact hloop 4  ls (by have h9 := lv_sub hl [0, 1] rfl; subst ex1; exact h9) (by decide) rfl
set_option maxHeartbeats 4000000 in
set_option maxRecDepth 100000 in
theorem cA_categoryOf (l : Launch) (v : Int32)  : pu_M l yA_categoryOf bA_categoryOf 2 (some .int) 0 [.int v] ta_F (.int (f_cat v)) := by
  refine Met.ofW (cc := bA_categoryOf) (maxL := 2) (ret := (some .int)) (by decide) rfl ?_
  intro p e s m args below meth c s₁ BB hml hv
  obtain ⟨rfl, hB⟩ := hv
  have hx := BB.exec
  have hb := BB.bytes
  have hr := BB.returns
  have hlk := BB.notSynchronized
  have hts := atoms_spec (ws := wd yA_categoryOf bA_categoryOf 2 (some .int)) BB.pre
  have hown : s.vm.findClass "HandTables" = some m.cls := findClass_of_methodNamed BB.named
  have hS : CallFix p m c bA_categoryOf 2 s _ (wd yA_categoryOf bA_categoryOf 2 (some .int)) "HandTables" := ⟨hx, hb, hml, hown, hts⟩
  obtain ⟨⟨t1, hT1⟩, ⟨t2, hT2⟩, ⟨t3, hT3⟩, ⟨t4, hT4⟩⟩ := id hB
  have hl := lv_entry ([.int v]) (n := 2) (Nat.le_of_ble_eq_true rfl)
  rw [lg_entry_eq]
  generalize (lg_sl ([.int v]) ++ List.replicate (2 - (lg_sl ([.int v])).length) Slot.unset).toArray = ls at hl ⊢
  have hl : lv_has ls 2 [(0, .int v)] := hl
  refine lv_bipush (v := 8) hx hb dA_categoryOf_0 (by decide) ?_
  refine lv_topi (fun x1 ex1 => ?_)
  refine lv_istore_n (lv' := [(1, .int x1), (0, .int v)]) hx hb dA_categoryOf_2 rfl hl (by decide) rfl (fun ls hl => ?_)
  have hloop : ∀ (n : Nat)  (ls : Array Slot), lv_has ls 2 [(1, .int (nI n)), (0, .int v)] → (n ≤ 8) → (∀ ls : Array Slot, lv_has ls 2 [(1, .int (c_lp v n))] → W p l e (headSpec (wd yA_categoryOf bA_categoryOf 2 (some .int)) (rmD 0 0 0)).room s m ([.int v]).toArray below meth c s.heap [] 0 0 (MQ below (pu_Q (.int (f_cat v))) ([.int v]).toArray s 0 0 (fun _ => False)) (F0 m 22 ls [])) → W p l e (headSpec (wd yA_categoryOf bA_categoryOf 2 (some .int)) (rmD 0 0 0)).room s m ([.int v]).toArray below meth c s.heap [] 0 0 (MQ below (pu_Q (.int (f_cat v))) ([.int v]).toArray s 0 0 (fun _ => False)) (F0 m 3 ls []) := by
    intro n
    induction n with
    | zero =>
      intro  ls hl hn K
      refine lv_iload_n hx hb dA_categoryOf_3 rfl (lv_at hl 0 rfl) ?_
      refine lv_if_le (tgt := 22) hx hb dA_categoryOf_4 (by decide) (fun hc2 => ?_) (fun hc2 => ?_)
      · simp only [c_lp] at K
        exact K _ (lv_sub hl [0] rfl)
      · exact absurd (by decide) hc2
    | succ n ih =>
      intro  ls hl hn K
      refine lv_iload_n hx hb dA_categoryOf_3 rfl (lv_at hl 0 rfl) ?_
      refine lv_if_le (tgt := 22) hx hb dA_categoryOf_4 (by decide) (fun hc3 => ?_) (fun hc3 => ?_)
      · exact absurd hc3 (nI_nle (by omega) (by omega))
      · refine lv_iload_n hx hb dA_categoryOf_7 rfl (lv_at hl 1 rfl) ?_
        refine ta_get hx hb hT1 hown (hts _ (wd_in (gw_mem 175 rfl rfl))) dA_categoryOf_8 ?_
        refine lv_iload_n hx hb dA_categoryOf_11 rfl (lv_at hl 0 rfl) ?_
        refine ta_ld hx hb hT1 (vp_in_nI (by simp only [l_FIRST, List.length]; omega) (by decide)) dA_categoryOf_12 ?_
        refine lv_icmp_ge (tgt := 22) hx hb dA_categoryOf_13 (by decide) (fun hc4 => ?_) (fun hc4 => ?_)
        · simp only [c_lp, if_pos hc4] at K
          exact K _ (lv_sub hl [0] rfl)
        · refine jv_iinc (a := (-1)) hx hb dA_categoryOf_16 hl (k := 0) rfl (by decide) (by decide) (fun x5 ex5 ls hl => ?_)
          have hl : lv_has ls 2 [(1, .int x5), (0, .int v)] := hl
          refine lv_goto (tgt := 3) hx hb dA_categoryOf_19 (by decide) ?_
          rw [nI_dec] at ex5
          subst ex5
          simp only [c_lp, if_neg hc4] at K
          exact ih  ls (lv_sub hl [0, 1] rfl) (by omega) K
  refine hloop 8  ls (by have h9 := lv_sub hl [0, 1] rfl; subst ex1; exact h9) (by decide) (fun ls hl => ?_)
  clear hloop
  obtain ⟨y6, ey6⟩ : ∃ z, z = (c_lp v 8) := ⟨_, rfl⟩
  rw [← ey6] at hl
  refine lv_iload_n hx hb dA_categoryOf_22 rfl (lv_at hl 0 rfl) ?_
  exact pu_iret hx hb hr hlk dA_categoryOf_23 (by subst ey6 ex1; rfl)
end
section
/-! Sets of ranks: rank r at bit 4 r; thirteen of them; what is found by looking at all 8192 sets -/
def ck_B (p : Nat → Bool) : Nat → Nat → Bool
  | 0, lo => p lo
  | d + 1, lo => ck_B p d lo && ck_B p d (lo + 2 ^ d)
theorem ck_of {p : Nat → Bool} : ∀ (d lo : Nat), ck_B p d lo = true → ∀ i, lo ≤ i → i < lo + 2 ^ d → p i = true
  | 0, lo, h, i, h1, h2 => by
    have e : i = lo := by simp at h2; omega
    subst e
    exact h
  | d + 1, lo, h, i, h1, h2 => by
    simp only [ck_B, Bool.and_eq_true] at h
    rw [Nat.pow_succ] at h2
    by_cases hc : i < lo + 2 ^ d
    · exact ck_of d lo h.1 i h1 hc
    · exact ck_of d (lo + 2 ^ d) h.2 i (by omega) (by omega)
def rk (x : Int64) : Prop := x &&& 300239975158033 = x
def spN : Nat → Nat → Nat
  | 0, _ => 0
  | k + 1, m => m % 2 + 16 * spN k (m / 2)
def sp (m : Nat) : Int64 := Int64.ofNat (spN 13 m)
theorem an_split (i a b c d : Nat) (hb : b < 2 ^ i) (hd : d < 2 ^ i) : (b + 2 ^ i * a) &&& (d + 2 ^ i * c) = (b &&& d) + 2 ^ i * (a &&& c) := by
  apply Nat.eq_of_testBit_eq
  intro j
  have hbd : b &&& d < 2 ^ i := Nat.lt_of_le_of_lt Nat.and_le_left hb
  rw [Nat.testBit_and, Nat.add_comm b, Nat.add_comm d, Nat.add_comm (b &&& d), Nat.testBit_two_pow_mul_add _ hb, Nat.testBit_two_pow_mul_add _ hd, Nat.testBit_two_pow_mul_add _ hbd]
  split
  · rw [Nat.testBit_and]
  · rw [Nat.testBit_and]
theorem sp_of : ∀ (k X : Nat), X &&& spN k (2 ^ k - 1) = X → ∃ m, m < 2 ^ k ∧ X = spN k m
  | 0, X, h => by
    simp [spN] at h
    exact ⟨0, by decide, by simp [spN, h]⟩
  | k + 1, X, h => by
    have e1 : (2 ^ (k + 1) - 1) % 2 = 1 := by rw [Nat.pow_succ]; have := Nat.one_le_two_pow (n := k); omega
    have e2 : (2 ^ (k + 1) - 1) / 2 = 2 ^ k - 1 := by rw [Nat.pow_succ]; have := Nat.one_le_two_pow (n := k); omega
    have hX : X = X % 16 + 2 ^ 4 * (X / 16) := by omega
    rw [spN, e1, e2] at h
    have h2 := an_split 4 (X / 16) (X % 16) (spN k (2 ^ k - 1)) 1 (by omega) (by decide)
    rw [← hX] at h2
    have h3 : (1 + 2 ^ 4 * spN k (2 ^ k - 1)) = 1 + 16 * spN k (2 ^ k - 1) := by omega
    rw [h3, h] at h2
    have h4 : X % 16 &&& 1 ≤ 1 := Nat.and_le_right
    have h5 : X / 16 &&& spN k (2 ^ k - 1) = X / 16 := by omega
    obtain ⟨m, hm, e⟩ := sp_of k (X / 16) h5
    refine ⟨X % 16 + 2 * m, by rw [Nat.pow_succ]; omega, ?_⟩
    have h6 : X % 16 ≤ 1 := by omega
    rw [spN, show (X % 16 + 2 * m) % 2 = X % 16 by omega, show (X % 16 + 2 * m) / 2 = m by omega, ← e]
    omega
theorem i64_nat (x : Int64) : x = Int64.ofNat x.toBitVec.toNat := by
  apply Int64.toBitVec_inj.mp
  apply BitVec.eq_of_toNat_eq
  simp
theorem rk_sp {x : Int64} (h : rk x) : ∃ m, m < 8192 ∧ x = sp m := by
  have h1 : x.toBitVec.toNat &&& spN 13 (2 ^ 13 - 1) = x.toBitVec.toNat := by
    have h2 := congrArg (fun z : Int64 => z.toBitVec.toNat) h
    simp only [Int64.toBitVec_and, BitVec.toNat_and] at h2
    exact h2
  obtain ⟨m, hm, e⟩ := sp_of 13 _ h1
  exact ⟨m, hm, by rw [i64_nat x, e]; rfl⟩
theorem hi_ck : ck_B (fun m => m == 0 || decide (f_highest (sp m) = nI (Nat.log2 m))) 13 0 = true := by decide +kernel
theorem hi_sp {m : Nat} (hm : m < 8192) (h0 : m ≠ 0) : f_highest (sp m) = nI (Nat.log2 m) := by
  have h := ck_of 13 0 hi_ck m (Nat.zero_le _) (by omega)
  simp only [Bool.or_eq_true, beq_iff_eq, decide_eq_true_eq] at h
  rcases h with h | h
  · exact absurd h h0
  · exact h
theorem rk_and {x : Int64} (y : Int64) (h : rk x) : rk (x &&& y) := by
  unfold rk at h ⊢
  rw [Int64.and_assoc, Int64.and_comm y, ← Int64.and_assoc, h]
theorem rk_0 {x : Int64} (h : rk x) (hx : ¬ x = 0) : ∃ j, j ≤ 12 ∧ f_highest x = nI j := by
  obtain ⟨m, hm, rfl⟩ := rk_sp h
  have h0 : m ≠ 0 := fun e => hx (by subst e; decide +kernel)
  refine ⟨Nat.log2 m, ?_, hi_sp hm h0⟩
  have := (Nat.log2_lt h0 (k := 13)).mpr (by omega)
  omega
end
section
/-! places of ranks -/
theorem ch_in {j k : Nat} (hj : j ≤ 12) (hk1 : 1 ≤ k) (hk : k ≤ 5) : vp_in ((nI k - 1) * 13 + nI j) l_CHOOSE.length := by
  have h : ∀ j, j < 13 → ∀ k, k < 6 → 1 ≤ k → ¬ ((nI k - 1) * 13 + nI j < 0 ∨ 65 ≤ ((nI k - 1) * 13 + nI j).toNatClampNeg) := by decide +kernel
  exact h j (by omega) k (by omega) hk1
theorem nI_dk {k : Nat} (h : ¬ nI k < 1) (hk : k < 2 ^ 31) : 1 ≤ k := by
  rcases Nat.eq_zero_or_pos k with e | e
  · subst e
    exact absurd (by decide) h
  · exact e
theorem nI_d1 {k : Nat} (h : 1 ≤ k) : nI k + (-1) = nI (k - 1) := by
  obtain ⟨j, rfl⟩ : ∃ j, k = j + 1 := ⟨k - 1, by omega⟩
  rw [nI_dec]; rfl
def ra_lp : Nat → Int64 → Int32 → Nat → Int64
  | 0, r, _, _ => r
  | n + 1, r, q, k => if nI k < 1 then r else if q < f_choose (nI n) (nI k) then ra_lp n r q k else ra_lp n (r ||| jl 1 (4 * nI n)) (q - f_choose (nI n) (nI k)) (k - 1)
def f_ranksAt (q : Int32) (k : Nat) : Int64 := ra_lp 13 0 q k
def po_lp : Nat → Int32 → Int64 → Int32
  | 0, a, _ => a
  | n + 1, a, r => if r = 0 then a else po_lp n (a + f_choose (f_highest r) (nI (n + 1))) (r &&& (jl 1 (4 * f_highest r) ^^^ -1))
def f_placeOf (r : Int64) (k : Nat) : Int32 := po_lp k 0 r
def pb_lp (q : Int32) : Nat → Int32 → Int32
  | 0, a => a
  | n + 1, a => if q ≤ l_STRP.getD (nI (10 - (n + 1))).toNatClampNeg 0 then pb_lp q n a else pb_lp q n (a + 1)
def f_pbs (r : Int64) : Int32 := f_placeOf r 5 - pb_lp (f_placeOf r 5) 10 0
def rb_lp : Nat → Int32 → Int32
  | 0, a => a
  | n + 1, a => if a < l_STRP.getD (nI (10 - (n + 1))).toNatClampNeg 0 then rb_lp n a else rb_lp n (a + 1)
def f_rbs (q : Int32) : Int64 := f_ranksAt (rb_lp 10 q) 5
set_option maxHeartbeats 4000000 in
set_option maxRecDepth 100000 in
theorem cA_ranksAt (l : Launch) (q : Int32) (k : Nat) (hk : k ≤ 5) : pu_M l yA_ranksAt bA_ranksAt 8 (some .long) 1 [.int q, .int (nI k)] ta_F (.long (f_ranksAt q k)) := by
  refine Met.ofW (cc := bA_ranksAt) (maxL := 8) (ret := (some .long)) (by decide) rfl ?_
  intro p e s m args below meth c s₁ BB hml hv
  obtain ⟨rfl, hB⟩ := hv
  have hx := BB.exec
  have hb := BB.bytes
  have hr := BB.returns
  have hlk := BB.notSynchronized
  have hts := atoms_spec (ws := wd yA_ranksAt bA_ranksAt 8 (some .long)) BB.pre
  have hown : s.vm.findClass "HandTables" = some m.cls := findClass_of_methodNamed BB.named
  have hS : CallFix p m c bA_ranksAt 8 s _ (wd yA_ranksAt bA_ranksAt 8 (some .long)) "HandTables" := ⟨hx, hb, hml, hown, hts⟩
  obtain ⟨⟨t1, hT1⟩, ⟨t2, hT2⟩, ⟨t3, hT3⟩, ⟨t4, hT4⟩⟩ := id hB
  have hl := lv_entry ([.int q, .int (nI k)]) (n := 8) (Nat.le_of_ble_eq_true rfl)
  rw [lg_entry_eq]
  generalize (lg_sl ([.int q, .int (nI k)]) ++ List.replicate (8 - (lg_sl ([.int q, .int (nI k)])).length) Slot.unset).toArray = ls at hl ⊢
  have hl : lv_has ls 8 [(0, .int q), (1, .int (nI k))] := hl
  refine lv_lconst (v := 0) hx hb dA_ranksAt_0 (by decide) ?_
  refine lv_topl (fun x1 ex1 => ?_)
  refine lv_lstore_n (lv' := [(2, .long x1), (0, .int q), (1, .int (nI k))]) hx hb dA_ranksAt_1 rfl hl (by decide) rfl (fun ls hl => ?_)
  refine lv_iload_n hx hb dA_ranksAt_2 rfl (lv_at hl 1 rfl) ?_
  refine lv_topi (fun x2 ex2 => ?_)
  refine lv_istore (lv' := [(4, .int x2), (2, .long x1), (0, .int q), (1, .int (nI k))]) hx hb dA_ranksAt_3 hl (by decide) rfl (fun ls hl => ?_)
  refine lv_iload_n hx hb dA_ranksAt_5 rfl (lv_at hl 3 rfl) ?_
  refine lv_topi (fun x3 ex3 => ?_)
  refine lv_istore (lv' := [(5, .int x3), (4, .int x2), (2, .long x1), (0, .int q), (1, .int (nI k))]) hx hb dA_ranksAt_6 hl (by decide) rfl (fun ls hl => ?_)
  refine lv_bipush (v := 12) hx hb dA_ranksAt_8 (by decide) ?_
  refine lv_topi (fun x4 ex4 => ?_)
  refine lv_istore (lv' := [(6, .int x4), (5, .int x3), (4, .int x2), (2, .long x1), (0, .int q), (1, .int (nI k))]) hx hb dA_ranksAt_10 hl (by decide) rfl (fun ls hl => ?_)
  have hloop : ∀ (n : Nat) (r : Int64) (g : Int32) (j : Nat) (ls : Array Slot), lv_has ls 8 [(6, .int (nI n + (-1))), (2, .long r), (4, .int g), (5, .int (nI j))] → (n ≤ 13) → (j ≤ 5) → (∀ ls : Array Slot, lv_has ls 8 [(2, .long (ra_lp n r g j))] → W p l e (headSpec (wd yA_ranksAt bA_ranksAt 8 (some .long)) (rmD 1 0 0)).room s m ([.int q, .int (nI k)]).toArray below meth c s.heap [] 0 0 (MQ below (pu_Q (.long (f_ranksAt q k))) ([.int q, .int (nI k)]).toArray s 0 0 (fun _ => False)) (F0 m 64 ls [])) → W p l e (headSpec (wd yA_ranksAt bA_ranksAt 8 (some .long)) (rmD 1 0 0)).room s m ([.int q, .int (nI k)]).toArray below meth c s.heap [] 0 0 (MQ below (pu_Q (.long (f_ranksAt q k))) ([.int q, .int (nI k)]).toArray s 0 0 (fun _ => False)) (F0 m 12 ls []) := by
    intro n
    induction n with
    | zero =>
      intro r g j ls hl hn hj K
      refine lv_iload hx hb dA_ranksAt_12 (lv_at hl 0 rfl) ?_
      refine lv_if_lt (tgt := 64) hx hb dA_ranksAt_14 (by decide) (fun hc5 => ?_) (fun hc5 => ?_)
      · simp only [ra_lp] at K
        exact K _ (lv_sub hl [1] rfl)
      · exact absurd (by decide) hc5
    | succ n ih =>
      intro r g j ls hl hn hj K
      have hl : lv_has ls 8 [(6, .int (nI n)), (2, .long r), (4, .int g), (5, .int (nI j))] := by rw [nI_dec] at hl; exact hl
      refine lv_iload hx hb dA_ranksAt_12 (lv_at hl 0 rfl) ?_
      refine lv_if_lt (tgt := 64) hx hb dA_ranksAt_14 (by decide) (fun hc6 => ?_) (fun hc6 => ?_)
      · exact absurd hc6 (nI_pos (by omega))
      · refine lv_iload hx hb dA_ranksAt_17 (lv_at hl 3 rfl) ?_
        refine lv_iconst (v := 1) hx hb dA_ranksAt_19 (by decide) ?_
        refine lv_icmp_lt (tgt := 64) hx hb dA_ranksAt_20 (by decide) (fun hc7 => ?_) (fun hc7 => ?_)
        · simp only [ra_lp, if_pos hc7] at K
          exact K _ (lv_sub hl [1] rfl)
        · refine lv_iload hx hb dA_ranksAt_23 (lv_at hl 0 rfl) ?_
          refine lv_iload hx hb dA_ranksAt_25 (lv_at hl 3 rfl) ?_
          refine pu_S (cA_choose l _ _ (ch_in (by omega) (nI_dk (by assumption) (by omega)) hj)) rfl kA_A_choose hS bl_ta hB rfl ⟨Nat.le_of_ble_eq_true rfl, Nat.le_of_ble_eq_true rfl⟩ hl.1 rfl (Nat.le_of_ble_eq_true rfl) ⟨Nat.zero_le _, Nat.zero_le _⟩ dA_ranksAt_27 ?_
          refine lv_topi (fun x8 ex8 => ?_)
          refine lv_istore (lv' := [(7, .int x8), (6, .int (nI n)), (2, .long r), (4, .int g), (5, .int (nI j))]) hx hb dA_ranksAt_30 hl (by decide) rfl (fun ls hl => ?_)
          refine lv_iload hx hb dA_ranksAt_32 (lv_at hl 0 rfl) ?_
          refine lv_iload hx hb dA_ranksAt_34 (lv_at hl 3 rfl) ?_
          refine lv_icmp_gt (tgt := 58) hx hb dA_ranksAt_36 (by decide) (fun hc9 => ?_) (fun hc9 => ?_)
          · refine jv_iinc (a := (-1)) hx hb dA_ranksAt_58 hl (k := 1) rfl (by decide) (by decide) (fun x10 ex10 ls hl => ?_)
            have hl : lv_has ls 8 [(6, .int x10), (7, .int x8), (2, .long r), (4, .int g), (5, .int (nI j))] := hl
            refine lv_goto (tgt := 12) hx hb dA_ranksAt_61 (by decide) ?_
            subst ex10 ex8
            simp only [ra_lp, if_neg hc7, if_pos hc9] at K
            exact ih _ _ _ ls (lv_sub hl [0, 2, 3, 4] rfl) (by omega) (by omega) K
          · refine lv_lload_n hx hb dA_ranksAt_39 rfl (lv_at hl 2 rfl) ?_
            refine lv_lconst (v := 1) hx hb dA_ranksAt_40 (by decide) ?_
            refine lv_iconst (v := 4) hx hb dA_ranksAt_41 (by decide) ?_
            refine lv_iload hx hb dA_ranksAt_42 (lv_at hl 1 rfl) ?_
            refine lv_imul hx hb dA_ranksAt_44 ?_
            refine jv_lshl hx hb dA_ranksAt_45 ?_
            refine lv_lor hx hb dA_ranksAt_46 ?_
            refine lv_topl (fun x11 ex11 => ?_)
            refine lv_lstore_n (lv' := [(2, .long x11), (7, .int x8), (6, .int (nI n)), (4, .int g), (5, .int (nI j))]) hx hb dA_ranksAt_47 rfl hl (by decide) rfl (fun ls hl => ?_)
            refine lv_iload hx hb dA_ranksAt_48 (lv_at hl 3 rfl) ?_
            refine lv_iload hx hb dA_ranksAt_50 (lv_at hl 1 rfl) ?_
            refine lv_isub hx hb dA_ranksAt_52 ?_
            refine lv_topi (fun x12 ex12 => ?_)
            refine lv_istore (lv' := [(4, .int x12), (2, .long x11), (7, .int x8), (6, .int (nI n)), (5, .int (nI j))]) hx hb dA_ranksAt_53 hl (by decide) rfl (fun ls hl => ?_)
            refine jv_iinc (a := (-1)) hx hb dA_ranksAt_55 hl (k := 4) rfl (by decide) (by decide) (fun x13 ex13 ls hl => ?_)
            have hl : lv_has ls 8 [(5, .int x13), (4, .int x12), (2, .long x11), (7, .int x8), (6, .int (nI n))] := hl
            refine jv_iinc (a := (-1)) hx hb dA_ranksAt_58 hl (k := 4) rfl (by decide) (by decide) (fun x14 ex14 ls hl => ?_)
            have hl : lv_has ls 8 [(6, .int x14), (5, .int x13), (4, .int x12), (2, .long x11), (7, .int x8)] := hl
            refine lv_goto (tgt := 12) hx hb dA_ranksAt_61 (by decide) ?_
            rw [nI_d1 (nI_dk hc7 (by omega))] at ex13
            subst ex14 ex13 ex12 ex11 ex8
            simp only [ra_lp, if_neg hc7, if_neg hc9] at K
            exact ih _ _ _ ls (lv_sub hl [0, 3, 2, 1] rfl) (by omega) (by omega) K
  refine hloop 13 x1 x2 k ls (by have h9 := lv_sub hl [0, 3, 2, 1] rfl; subst ex4; subst ex3; exact h9) (by decide) hk (fun ls hl => ?_)
  clear hloop
  obtain ⟨y15, ey15⟩ : ∃ z, z = (ra_lp 13 x1 x2 k) := ⟨_, rfl⟩
  rw [← ey15] at hl
  refine lv_lload_n hx hb dA_ranksAt_64 rfl (lv_at hl 0 rfl) ?_
  exact pu_lret hx hb hr hlk dA_ranksAt_65 (by subst ey15 ex4 ex3 ex2 ex1; rfl)
set_option maxHeartbeats 4000000 in
set_option maxRecDepth 100000 in
theorem cA_placeOf (l : Launch) (r : Int64) (k : Nat) (hk : k ≤ 5) (hr0 : rk r) : pu_M l yA_placeOf bA_placeOf 8 (some .int) 2 [.long r, .int (nI k)] ta_F (.int (f_placeOf r k)) := by
  refine Met.ofW (cc := bA_placeOf) (maxL := 8) (ret := (some .int)) (by decide) rfl ?_
  intro p e s m args below meth c s₁ BB hml hv
  obtain ⟨rfl, hB⟩ := hv
  have hx := BB.exec
  have hb := BB.bytes
  have hr := BB.returns
  have hlk := BB.notSynchronized
  have hts := atoms_spec (ws := wd yA_placeOf bA_placeOf 8 (some .int)) BB.pre
  have hown : s.vm.findClass "HandTables" = some m.cls := findClass_of_methodNamed BB.named
  have hS : CallFix p m c bA_placeOf 8 s _ (wd yA_placeOf bA_placeOf 8 (some .int)) "HandTables" := ⟨hx, hb, hml, hown, hts⟩
  obtain ⟨⟨t1, hT1⟩, ⟨t2, hT2⟩, ⟨t3, hT3⟩, ⟨t4, hT4⟩⟩ := id hB
  have hl := lv_entry ([.long r, .int (nI k)]) (n := 8) (Nat.le_of_ble_eq_true rfl)
  rw [lg_entry_eq]
  generalize (lg_sl ([.long r, .int (nI k)]) ++ List.replicate (8 - (lg_sl ([.long r, .int (nI k)])).length) Slot.unset).toArray = ls at hl ⊢
  have hl : lv_has ls 8 [(0, .long r), (2, .int (nI k))] := hl
  refine lv_iconst (v := 0) hx hb dA_placeOf_0 (by decide) ?_
  refine lv_topi (fun x1 ex1 => ?_)
  refine lv_istore_n (lv' := [(3, .int x1), (0, .long r), (2, .int (nI k))]) hx hb dA_placeOf_1 rfl hl (by decide) rfl (fun ls hl => ?_)
  refine lv_lload_n hx hb dA_placeOf_2 rfl (lv_at hl 1 rfl) ?_
  refine lv_topl (fun x2 ex2 => ?_)
  refine lv_lstore (lv' := [(4, .long x2), (3, .int x1), (0, .long r), (2, .int (nI k))]) hx hb dA_placeOf_3 hl (by decide) rfl (fun ls hl => ?_)
  refine lv_iload_n hx hb dA_placeOf_5 rfl (lv_at hl 3 rfl) ?_
  refine lv_topi (fun x3 ex3 => ?_)
  refine lv_istore (lv' := [(6, .int x3), (4, .long x2), (3, .int x1), (0, .long r), (2, .int (nI k))]) hx hb dA_placeOf_6 hl (by decide) rfl (fun ls hl => ?_)
  have hloop : ∀ (n : Nat) (a : Int32) (g : Int64) (ls : Array Slot), lv_has ls 8 [(6, .int (nI n)), (3, .int a), (4, .long g)] → (n ≤ 5) → (rk g) → (∀ ls : Array Slot, lv_has ls 8 [(3, .int (po_lp n a g))] → W p l e (headSpec (wd yA_placeOf bA_placeOf 8 (some .int)) (rmD 2 0 0)).room s m ([.long r, .int (nI k)]).toArray below meth c s.heap [] 0 0 (MQ below (pu_Q (.int (f_placeOf r k))) ([.long r, .int (nI k)]).toArray s 0 0 (fun _ => False)) (F0 m 59 ls [])) → W p l e (headSpec (wd yA_placeOf bA_placeOf 8 (some .int)) (rmD 2 0 0)).room s m ([.long r, .int (nI k)]).toArray below meth c s.heap [] 0 0 (MQ below (pu_Q (.int (f_placeOf r k))) ([.long r, .int (nI k)]).toArray s 0 0 (fun _ => False)) (F0 m 8 ls []) := by
    intro n
    induction n with
    | zero =>
      intro a g ls hl hn hg K
      refine lv_iload hx hb dA_placeOf_8 (lv_at hl 0 rfl) ?_
      refine lv_iconst (v := 1) hx hb dA_placeOf_10 (by decide) ?_
      refine lv_icmp_lt (tgt := 59) hx hb dA_placeOf_11 (by decide) (fun hc4 => ?_) (fun hc4 => ?_)
      · simp only [po_lp] at K
        exact K _ (lv_sub hl [1] rfl)
      · exact absurd (by decide) hc4
    | succ n ih =>
      intro a g ls hl hn hg K
      refine lv_iload hx hb dA_placeOf_8 (lv_at hl 0 rfl) ?_
      refine lv_iconst (v := 1) hx hb dA_placeOf_10 (by decide) ?_
      refine lv_icmp_lt (tgt := 59) hx hb dA_placeOf_11 (by decide) (fun hc5 => ?_) (fun hc5 => ?_)
      · exact absurd hc5 (by have := nI_nlt (a := n + 1) (b := 1) (by omega) (by omega); exact this)
      · refine lv_lload hx hb dA_placeOf_14 (lv_at hl 2 rfl) ?_
        refine lv_lconst (v := 0) hx hb dA_placeOf_16 (by decide) ?_
        refine jv_lceq (tgt := 59) hx hb dA_placeOf_17 dA_placeOf_18 (by decide) (fun hc6 => ?_) (fun hc6 => ?_)
        · simp only [po_lp, if_pos hc6] at K
          exact K _ (lv_sub hl [1] rfl)
        · refine lv_lload hx hb dA_placeOf_21 (lv_at hl 2 rfl) ?_
          refine pu_S (cA_highest l _) rfl kA_A_highest hS bl_T trivial rfl ⟨Nat.le_of_ble_eq_true rfl, Nat.le_of_ble_eq_true rfl⟩ hl.1 rfl (Nat.le_of_ble_eq_true rfl) ⟨Nat.zero_le _, Nat.zero_le _⟩ dA_placeOf_23 ?_
          refine lv_topi (fun x7 ex7 => ?_)
          refine lv_istore (lv' := [(7, .int x7), (6, .int (nI (n + 1))), (3, .int a), (4, .long g)]) hx hb dA_placeOf_26 hl (by decide) rfl (fun ls hl => ?_)
          refine lv_iload_n hx hb dA_placeOf_28 rfl (lv_at hl 2 rfl) ?_
          refine lv_iload hx hb dA_placeOf_29 (lv_at hl 0 rfl) ?_
          refine lv_iload hx hb dA_placeOf_31 (lv_at hl 1 rfl) ?_
          refine pu_S (cA_choose l _ _ (by subst_vars; obtain ⟨j, hj, ej⟩ := rk_0 hg (by assumption); rw [ej]; exact ch_in hj (by omega) hn)) rfl kA_A_choose hS bl_ta hB rfl ⟨Nat.le_of_ble_eq_true rfl, Nat.le_of_ble_eq_true rfl⟩ hl.1 rfl (Nat.le_of_ble_eq_true rfl) ⟨Nat.zero_le _, Nat.zero_le _⟩ dA_placeOf_33 ?_
          refine lv_iadd hx hb dA_placeOf_36 ?_
          refine lv_topi (fun x8 ex8 => ?_)
          refine lv_istore_n (lv' := [(3, .int x8), (7, .int x7), (6, .int (nI (n + 1))), (4, .long g)]) hx hb dA_placeOf_37 rfl hl (by decide) rfl (fun ls hl => ?_)
          refine lv_lload hx hb dA_placeOf_38 (lv_at hl 3 rfl) ?_
          refine lv_lconst (v := 1) hx hb dA_placeOf_40 (by decide) ?_
          refine lv_iconst (v := 4) hx hb dA_placeOf_41 (by decide) ?_
          refine lv_iload hx hb dA_placeOf_42 (lv_at hl 1 rfl) ?_
          refine lv_imul hx hb dA_placeOf_44 ?_
          refine jv_lshl hx hb dA_placeOf_45 ?_
          refine lv_ldc2 (v := (-1)) hx hb hown (hts _ (wd_in (gw_mem 183 rfl rfl))) dA_placeOf_46 ?_
          refine lv_lxor hx hb dA_placeOf_49 ?_
          refine lv_land hx hb dA_placeOf_50 ?_
          refine lv_topl (fun x9 ex9 => ?_)
          refine lv_lstore (lv' := [(4, .long x9), (3, .int x8), (7, .int x7), (6, .int (nI (n + 1)))]) hx hb dA_placeOf_51 hl (by decide) rfl (fun ls hl => ?_)
          refine jv_iinc (a := (-1)) hx hb dA_placeOf_53 hl (k := 3) rfl (by decide) (by decide) (fun x10 ex10 ls hl => ?_)
          have hl : lv_has ls 8 [(6, .int x10), (4, .long x9), (3, .int x8), (7, .int x7)] := hl
          refine lv_goto (tgt := 8) hx hb dA_placeOf_56 (by decide) ?_
          rw [nI_dec] at ex10
          subst ex10 ex9 ex8 ex7
          simp only [po_lp, if_neg hc6] at K
          exact ih _ _ ls (lv_sub hl [0, 2, 1] rfl) (by omega) (rk_and _ hg) K
  refine hloop k x1 x2 ls (by have h9 := lv_sub hl [0, 2, 1] rfl; subst ex3; exact h9) hk (by subst ex2; exact hr0) (fun ls hl => ?_)
  clear hloop
  obtain ⟨y11, ey11⟩ : ∃ z, z = (po_lp k x1 x2) := ⟨_, rfl⟩
  rw [← ey11] at hl
  refine lv_iload_n hx hb dA_placeOf_59 rfl (lv_at hl 0 rfl) ?_
  exact pu_iret hx hb hr hlk dA_placeOf_60 (by subst ey11 ex3 ex2 ex1; rfl)
set_option maxHeartbeats 4000000 in
set_option maxRecDepth 100000 in
theorem cA_placeBesideStraights (l : Launch) (r : Int64) (hr0 : rk r) : pu_M l yA_placeBesideStraights bA_placeBesideStraights 8 (some .int) 3 [.long r] ta_F (.int (f_pbs r)) := by
  refine Met.ofW (cc := bA_placeBesideStraights) (maxL := 8) (ret := (some .int)) (by decide) rfl ?_
  intro p e s m args below meth c s₁ BB hml hv
  obtain ⟨rfl, hB⟩ := hv
  have hx := BB.exec
  have hb := BB.bytes
  have hr := BB.returns
  have hlk := BB.notSynchronized
  have hts := atoms_spec (ws := wd yA_placeBesideStraights bA_placeBesideStraights 8 (some .int)) BB.pre
  have hown : s.vm.findClass "HandTables" = some m.cls := findClass_of_methodNamed BB.named
  have hS : CallFix p m c bA_placeBesideStraights 8 s _ (wd yA_placeBesideStraights bA_placeBesideStraights 8 (some .int)) "HandTables" := ⟨hx, hb, hml, hown, hts⟩
  obtain ⟨⟨t1, hT1⟩, ⟨t2, hT2⟩, ⟨t3, hT3⟩, ⟨t4, hT4⟩⟩ := id hB
  have hl := lv_entry ([.long r]) (n := 8) (Nat.le_of_ble_eq_true rfl)
  rw [lg_entry_eq]
  generalize (lg_sl ([.long r]) ++ List.replicate (8 - (lg_sl ([.long r])).length) Slot.unset).toArray = ls at hl ⊢
  have hl : lv_has ls 8 [(0, .long r)] := hl
  refine lv_lload_n hx hb dA_placeBesideStraights_0 rfl (lv_at hl 0 rfl) ?_
  refine lv_iconst (v := 5) hx hb dA_placeBesideStraights_1 (by decide) ?_
  refine pu_S (cA_placeOf l _ 5 (by decide) hr0) rfl kA_A_placeOf hS bl_ta hB rfl ⟨Nat.le_of_ble_eq_true rfl, Nat.le_of_ble_eq_true rfl⟩ hl.1 rfl (Nat.le_of_ble_eq_true rfl) ⟨Nat.zero_le _, Nat.zero_le _⟩ dA_placeBesideStraights_2 ?_
  refine lv_topi (fun x1 ex1 => ?_)
  refine lv_istore_n (lv' := [(2, .int x1), (0, .long r)]) hx hb dA_placeBesideStraights_5 rfl hl (by decide) rfl (fun ls hl => ?_)
  refine lv_iconst (v := 0) hx hb dA_placeBesideStraights_6 (by decide) ?_
  refine lv_topi (fun x2 ex2 => ?_)
  refine lv_istore_n (lv' := [(3, .int x2), (2, .int x1), (0, .long r)]) hx hb dA_placeBesideStraights_7 rfl hl (by decide) rfl (fun ls hl => ?_)
  refine ta_get hx hb hT3 hown (hts _ (wd_in (gw_mem 195 rfl rfl))) dA_placeBesideStraights_8 ?_
  refine lv_astore (lv' := [(4, .ref t3), (3, .int x2), (2, .int x1), (0, .long r)]) hx hb dA_placeBesideStraights_11 hl (by decide) rfl (fun ls hl => ?_)
  refine lv_aload hx hb dA_placeBesideStraights_13 (lv_at hl 0 rfl) ?_
  refine ta_len hx hb hT3 dA_placeBesideStraights_15 ?_
  refine lv_topi (fun x3 ex3 => ?_)
  refine lv_istore (lv' := [(5, .int x3), (4, .ref t3), (3, .int x2), (2, .int x1), (0, .long r)]) hx hb dA_placeBesideStraights_16 hl (by decide) rfl (fun ls hl => ?_)
  refine lv_iconst (v := 0) hx hb dA_placeBesideStraights_18 (by decide) ?_
  refine lv_topi (fun x4 ex4 => ?_)
  refine lv_istore (lv' := [(6, .int x4), (5, .int x3), (4, .ref t3), (3, .int x2), (2, .int x1), (0, .long r)]) hx hb dA_placeBesideStraights_19 hl (by decide) rfl (fun ls hl => ?_)
  have hloop : ∀ (n : Nat) (a : Int32) (ls : Array Slot), lv_has ls 8 [(6, .int (nI (10 - n))), (3, .int a), (2, .int x1), (4, .ref t3), (5, .int x3)] → (n ≤ 10) → (∀ ls : Array Slot, lv_has ls 8 [(3, .int (pb_lp x1 n a)), (2, .int x1)] → W p l e (headSpec (wd yA_placeBesideStraights bA_placeBesideStraights 8 (some .int)) (rmD 3 0 0)).room s m ([.long r]).toArray below meth c s.heap [] 0 0 (MQ below (pu_Q (.int (f_pbs r))) ([.long r]).toArray s 0 0 (fun _ => False)) (F0 m 50 ls [])) → W p l e (headSpec (wd yA_placeBesideStraights bA_placeBesideStraights 8 (some .int)) (rmD 3 0 0)).room s m ([.long r]).toArray below meth c s.heap [] 0 0 (MQ below (pu_Q (.int (f_pbs r))) ([.long r]).toArray s 0 0 (fun _ => False)) (F0 m 21 ls []) := by
    intro n
    induction n with
    | zero =>
      intro a ls hl hn K
      refine lv_iload hx hb dA_placeBesideStraights_21 (lv_at hl 0 rfl) ?_
      refine lv_iload hx hb dA_placeBesideStraights_23 (lv_at hl 4 rfl) ?_
      refine lv_icmp_ge (tgt := 50) hx hb dA_placeBesideStraights_25 (by decide) (fun hc5 => ?_) (fun hc5 => ?_)
      · simp only [pb_lp] at K
        exact K _ (lv_sub hl [1, 2] rfl)
      · exact absurd (by subst ex3; decide) hc5
    | succ n ih =>
      intro a ls hl hn K
      refine lv_iload hx hb dA_placeBesideStraights_21 (lv_at hl 0 rfl) ?_
      refine lv_iload hx hb dA_placeBesideStraights_23 (lv_at hl 4 rfl) ?_
      refine lv_icmp_ge (tgt := 50) hx hb dA_placeBesideStraights_25 (by decide) (fun hc6 => ?_) (fun hc6 => ?_)
      · exact absurd hc6 (by subst ex3; exact nI_ge (b := 10) (by omega) (by decide))
      · refine lv_aload hx hb dA_placeBesideStraights_28 (lv_at hl 3 rfl) ?_
        refine lv_iload hx hb dA_placeBesideStraights_30 (lv_at hl 0 rfl) ?_
        refine ta_ld hx hb hT3 (vp_in_nI (by simp only [l_STRP, List.length]; omega) (by decide)) dA_placeBesideStraights_32 ?_
        refine lv_topi (fun x7 ex7 => ?_)
        refine lv_istore (lv' := [(7, .int x7), (6, .int (nI (10 - (n + 1)))), (3, .int a), (2, .int x1), (4, .ref t3), (5, .int x3)]) hx hb dA_placeBesideStraights_33 hl (by decide) rfl (fun ls hl => ?_)
        refine lv_iload hx hb dA_placeBesideStraights_35 (lv_at hl 0 rfl) ?_
        refine lv_iload_n hx hb dA_placeBesideStraights_37 rfl (lv_at hl 3 rfl) ?_
        refine lv_icmp_ge (tgt := 44) hx hb dA_placeBesideStraights_38 (by decide) (fun hc8 => ?_) (fun hc8 => ?_)
        · refine jv_iinc (a := 1) hx hb dA_placeBesideStraights_44 hl (k := 1) rfl (by decide) (by decide) (fun x9 ex9 ls hl => ?_)
          have hl : lv_has ls 8 [(6, .int x9), (7, .int x7), (3, .int a), (2, .int x1), (4, .ref t3), (5, .int x3)] := hl
          refine lv_goto (tgt := 21) hx hb dA_placeBesideStraights_47 (by decide) ?_
          rw [nI_up (by omega)] at ex9
          subst ex9 ex7
          simp only [pb_lp, if_pos hc8] at K
          exact ih _ ls (lv_sub hl [0, 2, 3, 4, 5] rfl) (by omega) K
        · refine jv_iinc (a := 1) hx hb dA_placeBesideStraights_41 hl (k := 2) rfl (by decide) (by decide) (fun x10 ex10 ls hl => ?_)
          have hl : lv_has ls 8 [(3, .int x10), (7, .int x7), (6, .int (nI (10 - (n + 1)))), (2, .int x1), (4, .ref t3), (5, .int x3)] := hl
          refine jv_iinc (a := 1) hx hb dA_placeBesideStraights_44 hl (k := 2) rfl (by decide) (by decide) (fun x11 ex11 ls hl => ?_)
          have hl : lv_has ls 8 [(6, .int x11), (3, .int x10), (7, .int x7), (2, .int x1), (4, .ref t3), (5, .int x3)] := hl
          refine lv_goto (tgt := 21) hx hb dA_placeBesideStraights_47 (by decide) ?_
          rw [nI_up (by omega)] at ex11
          subst ex11 ex10 ex7
          simp only [pb_lp, if_neg hc8] at K
          exact ih _ ls (lv_sub hl [0, 1, 3, 4, 5] rfl) (by omega) K
  refine hloop 10 x2 ls (by have h9 := lv_sub hl [0, 3, 4, 2, 1] rfl; subst ex4; exact h9) (by decide) (fun ls hl => ?_)
  clear hloop
  obtain ⟨y12, ey12⟩ : ∃ z, z = (pb_lp x1 10 x2) := ⟨_, rfl⟩
  rw [← ey12] at hl
  refine lv_iload_n hx hb dA_placeBesideStraights_50 rfl (lv_at hl 1 rfl) ?_
  refine lv_iload_n hx hb dA_placeBesideStraights_51 rfl (lv_at hl 0 rfl) ?_
  refine lv_isub hx hb dA_placeBesideStraights_52 ?_
  exact pu_iret hx hb hr hlk dA_placeBesideStraights_53 (by subst ey12 ex4 ex3 ex2 ex1; rfl)
set_option maxHeartbeats 4000000 in
set_option maxRecDepth 100000 in
theorem cA_ranksBesideStraights (l : Launch) (q : Int32)  : pu_M l yA_ranksBesideStraights bA_ranksBesideStraights 6 (some .long) 2 [.int q] ta_F (.long (f_rbs q)) := by
  refine Met.ofW (cc := bA_ranksBesideStraights) (maxL := 6) (ret := (some .long)) (by decide) rfl ?_
  intro p e s m args below meth c s₁ BB hml hv
  obtain ⟨rfl, hB⟩ := hv
  have hx := BB.exec
  have hb := BB.bytes
  have hr := BB.returns
  have hlk := BB.notSynchronized
  have hts := atoms_spec (ws := wd yA_ranksBesideStraights bA_ranksBesideStraights 6 (some .long)) BB.pre
  have hown : s.vm.findClass "HandTables" = some m.cls := findClass_of_methodNamed BB.named
  have hS : CallFix p m c bA_ranksBesideStraights 6 s _ (wd yA_ranksBesideStraights bA_ranksBesideStraights 6 (some .long)) "HandTables" := ⟨hx, hb, hml, hown, hts⟩
  obtain ⟨⟨t1, hT1⟩, ⟨t2, hT2⟩, ⟨t3, hT3⟩, ⟨t4, hT4⟩⟩ := id hB
  have hl := lv_entry ([.int q]) (n := 6) (Nat.le_of_ble_eq_true rfl)
  rw [lg_entry_eq]
  generalize (lg_sl ([.int q]) ++ List.replicate (6 - (lg_sl ([.int q])).length) Slot.unset).toArray = ls at hl ⊢
  have hl : lv_has ls 6 [(0, .int q)] := hl
  refine lv_iload_n hx hb dA_ranksBesideStraights_0 rfl (lv_at hl 0 rfl) ?_
  refine lv_topi (fun x1 ex1 => ?_)
  refine lv_istore_n (lv' := [(1, .int x1), (0, .int q)]) hx hb dA_ranksBesideStraights_1 rfl hl (by decide) rfl (fun ls hl => ?_)
  refine ta_get hx hb hT3 hown (hts _ (wd_in (gw_mem 195 rfl rfl))) dA_ranksBesideStraights_2 ?_
  refine lv_astore_n (lv' := [(2, .ref t3), (1, .int x1), (0, .int q)]) hx hb dA_ranksBesideStraights_5 rfl hl (by decide) rfl (fun ls hl => ?_)
  refine lv_aload_n hx hb dA_ranksBesideStraights_6 rfl (lv_at hl 0 rfl) ?_
  refine ta_len hx hb hT3 dA_ranksBesideStraights_7 ?_
  refine lv_topi (fun x2 ex2 => ?_)
  refine lv_istore_n (lv' := [(3, .int x2), (2, .ref t3), (1, .int x1), (0, .int q)]) hx hb dA_ranksBesideStraights_8 rfl hl (by decide) rfl (fun ls hl => ?_)
  refine lv_iconst (v := 0) hx hb dA_ranksBesideStraights_9 (by decide) ?_
  refine lv_topi (fun x3 ex3 => ?_)
  refine lv_istore (lv' := [(4, .int x3), (3, .int x2), (2, .ref t3), (1, .int x1), (0, .int q)]) hx hb dA_ranksBesideStraights_10 hl (by decide) rfl (fun ls hl => ?_)
  have hloop : ∀ (n : Nat) (a : Int32) (ls : Array Slot), lv_has ls 6 [(4, .int (nI (10 - n))), (1, .int a), (2, .ref t3), (3, .int x2)] → (n ≤ 10) → (∀ ls : Array Slot, lv_has ls 6 [(1, .int (rb_lp n a))] → W p l e (headSpec (wd yA_ranksBesideStraights bA_ranksBesideStraights 6 (some .long)) (rmD 2 0 0)).room s m ([.int q]).toArray below meth c s.heap [] 0 0 (MQ below (pu_Q (.long (f_rbs q))) ([.int q]).toArray s 0 0 (fun _ => False)) (F0 m 39 ls [])) → W p l e (headSpec (wd yA_ranksBesideStraights bA_ranksBesideStraights 6 (some .long)) (rmD 2 0 0)).room s m ([.int q]).toArray below meth c s.heap [] 0 0 (MQ below (pu_Q (.long (f_rbs q))) ([.int q]).toArray s 0 0 (fun _ => False)) (F0 m 12 ls []) := by
    intro n
    induction n with
    | zero =>
      intro a ls hl hn K
      refine lv_iload hx hb dA_ranksBesideStraights_12 (lv_at hl 0 rfl) ?_
      refine lv_iload_n hx hb dA_ranksBesideStraights_14 rfl (lv_at hl 3 rfl) ?_
      refine lv_icmp_ge (tgt := 39) hx hb dA_ranksBesideStraights_15 (by decide) (fun hc4 => ?_) (fun hc4 => ?_)
      · simp only [rb_lp] at K
        exact K _ (lv_sub hl [1] rfl)
      · exact absurd (by subst ex2; decide) hc4
    | succ n ih =>
      intro a ls hl hn K
      refine lv_iload hx hb dA_ranksBesideStraights_12 (lv_at hl 0 rfl) ?_
      refine lv_iload_n hx hb dA_ranksBesideStraights_14 rfl (lv_at hl 3 rfl) ?_
      refine lv_icmp_ge (tgt := 39) hx hb dA_ranksBesideStraights_15 (by decide) (fun hc5 => ?_) (fun hc5 => ?_)
      · exact absurd hc5 (by subst ex2; exact nI_ge (b := 10) (by omega) (by decide))
      · refine lv_aload_n hx hb dA_ranksBesideStraights_18 rfl (lv_at hl 2 rfl) ?_
        refine lv_iload hx hb dA_ranksBesideStraights_19 (lv_at hl 0 rfl) ?_
        refine ta_ld hx hb hT3 (vp_in_nI (by simp only [l_STRP, List.length]; omega) (by decide)) dA_ranksBesideStraights_21 ?_
        refine lv_topi (fun x6 ex6 => ?_)
        refine lv_istore (lv' := [(5, .int x6), (4, .int (nI (10 - (n + 1)))), (1, .int a), (2, .ref t3), (3, .int x2)]) hx hb dA_ranksBesideStraights_22 hl (by decide) rfl (fun ls hl => ?_)
        refine lv_iload hx hb dA_ranksBesideStraights_24 (lv_at hl 0 rfl) ?_
        refine lv_iload_n hx hb dA_ranksBesideStraights_26 rfl (lv_at hl 2 rfl) ?_
        refine lv_icmp_gt (tgt := 33) hx hb dA_ranksBesideStraights_27 (by decide) (fun hc7 => ?_) (fun hc7 => ?_)
        · refine jv_iinc (a := 1) hx hb dA_ranksBesideStraights_33 hl (k := 1) rfl (by decide) (by decide) (fun x8 ex8 ls hl => ?_)
          have hl : lv_has ls 6 [(4, .int x8), (5, .int x6), (1, .int a), (2, .ref t3), (3, .int x2)] := hl
          refine lv_goto (tgt := 12) hx hb dA_ranksBesideStraights_36 (by decide) ?_
          rw [nI_up (by omega)] at ex8
          subst ex8 ex6
          simp only [rb_lp, if_pos hc7] at K
          exact ih _ ls (lv_sub hl [0, 2, 3, 4] rfl) (by omega) K
        · refine jv_iinc (a := 1) hx hb dA_ranksBesideStraights_30 hl (k := 2) rfl (by decide) (by decide) (fun x9 ex9 ls hl => ?_)
          have hl : lv_has ls 6 [(1, .int x9), (5, .int x6), (4, .int (nI (10 - (n + 1)))), (2, .ref t3), (3, .int x2)] := hl
          refine jv_iinc (a := 1) hx hb dA_ranksBesideStraights_33 hl (k := 2) rfl (by decide) (by decide) (fun x10 ex10 ls hl => ?_)
          have hl : lv_has ls 6 [(4, .int x10), (1, .int x9), (5, .int x6), (2, .ref t3), (3, .int x2)] := hl
          refine lv_goto (tgt := 12) hx hb dA_ranksBesideStraights_36 (by decide) ?_
          rw [nI_up (by omega)] at ex10
          subst ex10 ex9 ex6
          simp only [rb_lp, if_neg hc7] at K
          exact ih _ ls (lv_sub hl [0, 1, 3, 4] rfl) (by omega) K
  refine hloop 10 x1 ls (by have h9 := lv_sub hl [0, 3, 2, 1] rfl; subst ex3; exact h9) (by decide) (fun ls hl => ?_)
  clear hloop
  obtain ⟨y11, ey11⟩ : ∃ z, z = (rb_lp 10 x1) := ⟨_, rfl⟩
  rw [← ey11] at hl
  refine lv_iload_n hx hb dA_ranksBesideStraights_39 rfl (lv_at hl 0 rfl) ?_
  refine lv_iconst (v := 5) hx hb dA_ranksBesideStraights_40 (by decide) ?_
  refine pu_S (cA_ranksAt l _ 5 (by decide)) rfl kA_A_ranksAt hS bl_ta hB rfl ⟨Nat.le_of_ble_eq_true rfl, Nat.le_of_ble_eq_true rfl⟩ hl.1 rfl (Nat.le_of_ble_eq_true rfl) ⟨Nat.zero_le _, Nat.zero_le _⟩ dA_ranksBesideStraights_41 ?_
  exact pu_lret hx hb hr hlk dA_ranksBesideStraights_44 (by subst ey11 ex3 ex2 ex1; rfl)
end
section
/-! the value of some cards -/
def fi (k : Int32) : Int32 := l_FIRST.getD k.toNatClampNeg 0
def f_pairs (o t : Int64) : Int32 :=
  if f_without t (f_highest t) = 0 then fi 1 + f_highest t * 220 + f_placeOf (f_without o (f_highest t)) 3
  else fi 2 + f_placeOf t 2 * 11 + f_placeOf (f_without (f_without o (f_highest t)) (f_highest (f_without t (f_highest t)))) 1
def v_3 (s o t h : Int64) : Int32 :=
  if s = 0 then
    if f_straights o = 0 then
      if h = 0 then if t = 0 then fi 0 + f_pbs o else f_pairs o t
      else fi 3 + f_highest h * 66 + f_placeOf (f_without o (f_highest h)) 2
    else fi 4 + f_highest (f_straights o)
  else fi 5 + f_pbs s
def v_2 (s o t h f : Int64) : Int32 :=
  if f_straights s = 0 then
    if f = 0 then
      if h = 0 then v_3 s o t h
      else if f_without t (f_highest h) = 0 then v_3 s o t h else fi 6 + f_highest h * 12 + f_placeOf (f_without t (f_highest h)) 1
    else fi 7 + f_highest f * 12 + f_placeOf (f_without o (f_highest f)) 1
  else fi 8 + f_highest (f_straights s)
def v_1 (s a b c d : Int64) : Int32 := v_2 s (a ||| b ||| c ||| d) (a &&& b ||| c &&& d ||| (a ||| b) &&& (c ||| d)) (a &&& b &&& (c ||| d) ||| c &&& d &&& (a ||| b)) (a &&& b &&& c &&& d)
def f_valueOf (x : Int64) : Int32 := v_1 (f_suited x) (x &&& 300239975158033) (ju x 1 &&& 300239975158033) (ju x 2 &&& 300239975158033) (ju x 3 &&& 300239975158033)
theorem rk_m (x : Int64) : rk (x &&& 300239975158033) := by
  unfold rk
  rw [Int64.and_assoc, Int64.and_self]
theorem rk_or {x y : Int64} (hx : rk x) (hy : rk y) : rk (x ||| y) := by
  unfold rk at hx hy ⊢
  apply Int64.toBitVec_inj.mp
  have h1 := congrArg Int64.toBitVec hx
  have h2 := congrArg Int64.toBitVec hy
  simp only [Int64.toBitVec_and, Int64.toBitVec_or] at h1 h2 ⊢
  apply BitVec.eq_of_getLsbD_eq
  intro i hi
  have g1 := congrArg (fun z => BitVec.getLsbD z i) h1
  have g2 := congrArg (fun z => BitVec.getLsbD z i) h2
  simp only [BitVec.getLsbD_and] at g1 g2
  simp only [BitVec.getLsbD_and, BitVec.getLsbD_or]
  rw [← g1, ← g2]
  cases x.toBitVec.getLsbD i <;> cases y.toBitVec.getLsbD i <;> simp
theorem rk_z : rk 0 := by unfold rk; decide +kernel
theorem ju4_ck : ck_B (fun m => decide (ju (sp m) 4 &&& 300239975158033 = ju (sp m) 4)) 13 0 = true := by decide +kernel
theorem rk_ju {x : Int64} (h : rk x) : rk (ju x 4) := by
  obtain ⟨m, hm, rfl⟩ := rk_sp h
  have h := ck_of 13 0 ju4_ck m (Nat.zero_le _) (by omega)
  simp only [decide_eq_true_eq] at h
  exact h
theorem rk_wo {x : Int64} (k : Int32) (h : rk x) : rk (f_without x k) := rk_or (rk_and _ h) (rk_and _ (rk_ju h))
theorem rk_su (x : Int64) : rk (f_suited x) := by
  have key : ∀ n, rk (s_lp x n) := by
    intro n
    induction n with
    | zero => exact rk_z
    | succ n ih =>
      unfold s_lp
      split
      · exact ih
      · exact rk_m _
  exact key 4
theorem in_10 {k : Int32} (h : vp_in k 10) : vp_in k l_FIRST.length := h
set_option maxHeartbeats 4000000 in
set_option maxRecDepth 100000 in
theorem cA_pairsValue (l : Launch) (o : Int64) (t : Int64) (ho : rk o) (ht : rk t) : pu_M l yA_pairsValue bA_pairsValue 10 (some .int) 3 [.long o, .long t] ta_F (.int (f_pairs o t)) := by
  refine Met.ofW (cc := bA_pairsValue) (maxL := 10) (ret := (some .int)) (by decide) rfl ?_
  intro p e s m args below meth c s₁ BB hml hv
  obtain ⟨rfl, hB⟩ := hv
  have hx := BB.exec
  have hb := BB.bytes
  have hr := BB.returns
  have hlk := BB.notSynchronized
  have hts := atoms_spec (ws := wd yA_pairsValue bA_pairsValue 10 (some .int)) BB.pre
  have hown : s.vm.findClass "HandTables" = some m.cls := findClass_of_methodNamed BB.named
  have hS : CallFix p m c bA_pairsValue 10 s _ (wd yA_pairsValue bA_pairsValue 10 (some .int)) "HandTables" := ⟨hx, hb, hml, hown, hts⟩
  obtain ⟨⟨t1, hT1⟩, ⟨t2, hT2⟩, ⟨t3, hT3⟩, ⟨t4, hT4⟩⟩ := id hB
  have hl := lv_entry ([.long o, .long t]) (n := 10) (Nat.le_of_ble_eq_true rfl)
  rw [lg_entry_eq]
  generalize (lg_sl ([.long o, .long t]) ++ List.replicate (10 - (lg_sl ([.long o, .long t])).length) Slot.unset).toArray = ls at hl ⊢
  have hl : lv_has ls 10 [(0, .long o), (2, .long t)] := hl
  refine lv_lload_n hx hb dA_pairsValue_0 rfl (lv_at hl 1 rfl) ?_
  refine pu_S (cA_highest l _) rfl kA_A_highest hS bl_T trivial rfl ⟨Nat.le_of_ble_eq_true rfl, Nat.le_of_ble_eq_true rfl⟩ hl.1 rfl (Nat.le_of_ble_eq_true rfl) ⟨Nat.zero_le _, Nat.zero_le _⟩ dA_pairsValue_1 ?_
  refine lv_topi (fun x1 ex1 => ?_)
  refine lv_istore (lv' := [(4, .int x1), (0, .long o), (2, .long t)]) hx hb dA_pairsValue_4 hl (by decide) rfl (fun ls hl => ?_)
  refine lv_lload_n hx hb dA_pairsValue_6 rfl (lv_at hl 1 rfl) ?_
  refine lv_iload hx hb dA_pairsValue_7 (lv_at hl 0 rfl) ?_
  refine pu_S (cA_without l _ _) rfl kA_A_without hS bl_T trivial rfl ⟨Nat.le_of_ble_eq_true rfl, Nat.le_of_ble_eq_true rfl⟩ hl.1 rfl (Nat.le_of_ble_eq_true rfl) ⟨Nat.zero_le _, Nat.zero_le _⟩ dA_pairsValue_9 ?_
  refine lv_topl (fun x2 ex2 => ?_)
  refine lv_lstore (lv' := [(5, .long x2), (4, .int x1), (0, .long o), (2, .long t)]) hx hb dA_pairsValue_12 hl (by decide) rfl (fun ls hl => ?_)
  refine lv_lload_n hx hb dA_pairsValue_14 rfl (lv_at hl 3 rfl) ?_
  refine lv_iload hx hb dA_pairsValue_15 (lv_at hl 1 rfl) ?_
  refine pu_S (cA_without l _ _) rfl kA_A_without hS bl_T trivial rfl ⟨Nat.le_of_ble_eq_true rfl, Nat.le_of_ble_eq_true rfl⟩ hl.1 rfl (Nat.le_of_ble_eq_true rfl) ⟨Nat.zero_le _, Nat.zero_le _⟩ dA_pairsValue_17 ?_
  refine lv_topl (fun x3 ex3 => ?_)
  refine lv_lstore (lv' := [(7, .long x3), (5, .long x2), (4, .int x1), (0, .long o), (2, .long t)]) hx hb dA_pairsValue_20 hl (by decide) rfl (fun ls hl => ?_)
  refine lv_lload hx hb dA_pairsValue_22 (lv_at hl 0 rfl) ?_
  refine lv_lconst (v := 0) hx hb dA_pairsValue_24 (by decide) ?_
  refine jv_lcne (tgt := 49) hx hb dA_pairsValue_25 dA_pairsValue_26 (by decide) (fun hc4 => ?_) (fun hc4 => ?_)
  · refine lv_lload hx hb dA_pairsValue_49 (lv_at hl 1 rfl) ?_
    refine lv_lload hx hb dA_pairsValue_51 (lv_at hl 0 rfl) ?_
    refine pu_S (cA_highest l _) rfl kA_A_highest hS bl_T trivial rfl ⟨Nat.le_of_ble_eq_true rfl, Nat.le_of_ble_eq_true rfl⟩ hl.1 rfl (Nat.le_of_ble_eq_true rfl) ⟨Nat.zero_le _, Nat.zero_le _⟩ dA_pairsValue_53 ?_
    refine pu_S (cA_without l _ _) rfl kA_A_without hS bl_T trivial rfl ⟨Nat.le_of_ble_eq_true rfl, Nat.le_of_ble_eq_true rfl⟩ hl.1 rfl (Nat.le_of_ble_eq_true rfl) ⟨Nat.zero_le _, Nat.zero_le _⟩ dA_pairsValue_56 ?_
    refine lv_iconst (v := 1) hx hb dA_pairsValue_59 (by decide) ?_
    refine pu_S (cA_placeOf l _ 1 (by decide) (by subst_vars; exact rk_wo _ (rk_wo _ ho))) rfl kA_A_placeOf hS bl_ta hB rfl ⟨Nat.le_of_ble_eq_true rfl, Nat.le_of_ble_eq_true rfl⟩ hl.1 rfl (Nat.le_of_ble_eq_true rfl) ⟨Nat.zero_le _, Nat.zero_le _⟩ dA_pairsValue_60 ?_
    refine lv_topi (fun x5 ex5 => ?_)
    refine lv_istore (lv' := [(9, .int x5), (7, .long x3), (5, .long x2), (4, .int x1), (0, .long o), (2, .long t)]) hx hb dA_pairsValue_63 hl (by decide) rfl (fun ls hl => ?_)
    refine ta_get hx hb hT1 hown (hts _ (wd_in (gw_mem 175 rfl rfl))) dA_pairsValue_65 ?_
    refine lv_iconst (v := 2) hx hb dA_pairsValue_68 (by decide) ?_
    refine ta_ld hx hb hT1 (by unfold vp_in; decide) dA_pairsValue_69 ?_
    refine lv_lload_n hx hb dA_pairsValue_70 rfl (lv_at hl 5 rfl) ?_
    refine lv_iconst (v := 2) hx hb dA_pairsValue_71 (by decide) ?_
    refine pu_S (cA_placeOf l _ 2 (by decide) ht) rfl kA_A_placeOf hS bl_ta hB rfl ⟨Nat.le_of_ble_eq_true rfl, Nat.le_of_ble_eq_true rfl⟩ hl.1 rfl (Nat.le_of_ble_eq_true rfl) ⟨Nat.zero_le _, Nat.zero_le _⟩ dA_pairsValue_72 ?_
    refine lv_bipush (v := 11) hx hb dA_pairsValue_75 (by decide) ?_
    refine lv_imul hx hb dA_pairsValue_77 ?_
    refine lv_iadd hx hb dA_pairsValue_78 ?_
    refine lv_iload hx hb dA_pairsValue_79 (lv_at hl 0 rfl) ?_
    refine lv_iadd hx hb dA_pairsValue_81 ?_
    exact pu_iret hx hb hr hlk dA_pairsValue_82 (by subst ex5 ex3 ex2 ex1; first | contradiction | ((try simp only [f_pairs, if_neg hc4]) <;> rfl))
  · refine ta_get hx hb hT1 hown (hts _ (wd_in (gw_mem 175 rfl rfl))) dA_pairsValue_29 ?_
    refine lv_iconst (v := 1) hx hb dA_pairsValue_32 (by decide) ?_
    refine ta_ld hx hb hT1 (by unfold vp_in; decide) dA_pairsValue_33 ?_
    refine lv_iload hx hb dA_pairsValue_34 (lv_at hl 2 rfl) ?_
    refine lv_sipush (v := 220) hx hb dA_pairsValue_36 (by decide) ?_
    refine lv_imul hx hb dA_pairsValue_39 ?_
    refine lv_iadd hx hb dA_pairsValue_40 ?_
    refine lv_lload hx hb dA_pairsValue_41 (lv_at hl 1 rfl) ?_
    refine lv_iconst (v := 3) hx hb dA_pairsValue_43 (by decide) ?_
    refine pu_S (cA_placeOf l _ 3 (by decide) (by subst_vars; exact rk_wo _ ho)) rfl kA_A_placeOf hS bl_ta hB rfl ⟨Nat.le_of_ble_eq_true rfl, Nat.le_of_ble_eq_true rfl⟩ hl.1 rfl (Nat.le_of_ble_eq_true rfl) ⟨Nat.zero_le _, Nat.zero_le _⟩ dA_pairsValue_44 ?_
    refine lv_iadd hx hb dA_pairsValue_47 ?_
    exact pu_iret hx hb hr hlk dA_pairsValue_48 (by subst ex3 ex2 ex1; first | contradiction | ((try simp only [f_pairs, if_pos hc4]) <;> rfl))
set_option maxHeartbeats 4000000 in
set_option maxRecDepth 100000 in
theorem cA_valueOf (l : Launch) (x : Int64)  : pu_M l yA_valueOf bA_valueOf 25 (some .int) 4 [.long x] ta_F (.int (f_valueOf x)) := by
  refine Met.ofW (cc := bA_valueOf) (maxL := 25) (ret := (some .int)) (by decide) rfl ?_
  intro p e s m args below meth c s₁ BB hml hv
  obtain ⟨rfl, hB⟩ := hv
  have hx := BB.exec
  have hb := BB.bytes
  have hr := BB.returns
  have hlk := BB.notSynchronized
  have hts := atoms_spec (ws := wd yA_valueOf bA_valueOf 25 (some .int)) BB.pre
  have hown : s.vm.findClass "HandTables" = some m.cls := findClass_of_methodNamed BB.named
  have hS : CallFix p m c bA_valueOf 25 s _ (wd yA_valueOf bA_valueOf 25 (some .int)) "HandTables" := ⟨hx, hb, hml, hown, hts⟩
  obtain ⟨⟨t1, hT1⟩, ⟨t2, hT2⟩, ⟨t3, hT3⟩, ⟨t4, hT4⟩⟩ := id hB
  have hl := lv_entry ([.long x]) (n := 25) (Nat.le_of_ble_eq_true rfl)
  rw [lg_entry_eq]
  generalize (lg_sl ([.long x]) ++ List.replicate (25 - (lg_sl ([.long x])).length) Slot.unset).toArray = ls at hl ⊢
  have hl : lv_has ls 25 [(0, .long x)] := hl
  refine lv_lload_n hx hb dA_valueOf_0 rfl (lv_at hl 0 rfl) ?_
  refine pu_S (cA_suitedRanks l _) rfl kA_A_suitedRanks hS bl_T trivial rfl ⟨Nat.le_of_ble_eq_true rfl, Nat.le_of_ble_eq_true rfl⟩ hl.1 rfl (Nat.le_of_ble_eq_true rfl) ⟨Nat.zero_le _, Nat.zero_le _⟩ dA_valueOf_1 ?_
  refine lv_topl (fun x1 ex1 => ?_)
  refine lv_lstore_n (lv' := [(2, .long x1), (0, .long x)]) hx hb dA_valueOf_4 rfl hl (by decide) rfl (fun ls hl => ?_)
  refine lv_lload_n hx hb dA_valueOf_5 rfl (lv_at hl 0 rfl) ?_
  refine pu_S (cA_straights l _) rfl kA_A_straights hS bl_T trivial rfl ⟨Nat.le_of_ble_eq_true rfl, Nat.le_of_ble_eq_true rfl⟩ hl.1 rfl (Nat.le_of_ble_eq_true rfl) ⟨Nat.zero_le _, Nat.zero_le _⟩ dA_valueOf_6 ?_
  refine lv_topl (fun x2 ex2 => ?_)
  refine lv_lstore (lv' := [(4, .long x2), (2, .long x1), (0, .long x)]) hx hb dA_valueOf_9 hl (by decide) rfl (fun ls hl => ?_)
  refine lv_lload hx hb dA_valueOf_11 (lv_at hl 0 rfl) ?_
  refine lv_lconst (v := 0) hx hb dA_valueOf_13 (by decide) ?_
  refine jv_lceq (tgt := 31) hx hb dA_valueOf_14 dA_valueOf_15 (by decide) (fun hc3 => ?_) (fun hc3 => ?_)
  · refine lv_lload_n hx hb dA_valueOf_31 rfl (lv_at hl 2 rfl) ?_
    refine lv_ldc2 (v := 300239975158033) hx hb hown (hts _ (wd_in (gw_mem 171 rfl rfl))) dA_valueOf_32 ?_
    refine lv_land hx hb dA_valueOf_35 ?_
    refine lv_topl (fun x4 ex4 => ?_)
    refine lv_lstore (lv' := [(6, .long x4), (4, .long x2), (2, .long x1), (0, .long x)]) hx hb dA_valueOf_36 hl (by decide) rfl (fun ls hl => ?_)
    refine lv_lload_n hx hb dA_valueOf_38 rfl (lv_at hl 3 rfl) ?_
    refine lv_iconst (v := 1) hx hb dA_valueOf_39 (by decide) ?_
    refine jv_lushr hx hb dA_valueOf_40 ?_
    refine lv_ldc2 (v := 300239975158033) hx hb hown (hts _ (wd_in (gw_mem 171 rfl rfl))) dA_valueOf_41 ?_
    refine lv_land hx hb dA_valueOf_44 ?_
    refine lv_topl (fun x5 ex5 => ?_)
    refine lv_lstore (lv' := [(8, .long x5), (6, .long x4), (4, .long x2), (2, .long x1), (0, .long x)]) hx hb dA_valueOf_45 hl (by decide) rfl (fun ls hl => ?_)
    refine lv_lload_n hx hb dA_valueOf_47 rfl (lv_at hl 4 rfl) ?_
    refine lv_iconst (v := 2) hx hb dA_valueOf_48 (by decide) ?_
    refine jv_lushr hx hb dA_valueOf_49 ?_
    refine lv_ldc2 (v := 300239975158033) hx hb hown (hts _ (wd_in (gw_mem 171 rfl rfl))) dA_valueOf_50 ?_
    refine lv_land hx hb dA_valueOf_53 ?_
    refine lv_topl (fun x6 ex6 => ?_)
    refine lv_lstore (lv' := [(10, .long x6), (8, .long x5), (6, .long x4), (4, .long x2), (2, .long x1), (0, .long x)]) hx hb dA_valueOf_54 hl (by decide) rfl (fun ls hl => ?_)
    refine lv_lload_n hx hb dA_valueOf_56 rfl (lv_at hl 5 rfl) ?_
    refine lv_iconst (v := 3) hx hb dA_valueOf_57 (by decide) ?_
    refine jv_lushr hx hb dA_valueOf_58 ?_
    refine lv_ldc2 (v := 300239975158033) hx hb hown (hts _ (wd_in (gw_mem 171 rfl rfl))) dA_valueOf_59 ?_
    refine lv_land hx hb dA_valueOf_62 ?_
    refine lv_topl (fun x7 ex7 => ?_)
    refine lv_lstore (lv' := [(12, .long x7), (10, .long x6), (8, .long x5), (6, .long x4), (4, .long x2), (2, .long x1), (0, .long x)]) hx hb dA_valueOf_63 hl (by decide) rfl (fun ls hl => ?_)
    refine lv_lload hx hb dA_valueOf_65 (lv_at hl 3 rfl) ?_
    refine lv_lload hx hb dA_valueOf_67 (lv_at hl 2 rfl) ?_
    refine lv_lor hx hb dA_valueOf_69 ?_
    refine lv_lload hx hb dA_valueOf_70 (lv_at hl 1 rfl) ?_
    refine lv_lor hx hb dA_valueOf_72 ?_
    refine lv_lload hx hb dA_valueOf_73 (lv_at hl 0 rfl) ?_
    refine lv_lor hx hb dA_valueOf_75 ?_
    refine lv_topl (fun x8 ex8 => ?_)
    refine lv_lstore (lv' := [(14, .long x8), (12, .long x7), (10, .long x6), (8, .long x5), (6, .long x4), (4, .long x2), (2, .long x1), (0, .long x)]) hx hb dA_valueOf_76 hl (by decide) rfl (fun ls hl => ?_)
    refine lv_lload hx hb dA_valueOf_78 (lv_at hl 4 rfl) ?_
    refine lv_lload hx hb dA_valueOf_80 (lv_at hl 3 rfl) ?_
    refine lv_land hx hb dA_valueOf_82 ?_
    refine lv_lload hx hb dA_valueOf_83 (lv_at hl 2 rfl) ?_
    refine lv_lload hx hb dA_valueOf_85 (lv_at hl 1 rfl) ?_
    refine lv_land hx hb dA_valueOf_87 ?_
    refine lv_lor hx hb dA_valueOf_88 ?_
    refine lv_lload hx hb dA_valueOf_89 (lv_at hl 4 rfl) ?_
    refine lv_lload hx hb dA_valueOf_91 (lv_at hl 3 rfl) ?_
    refine lv_lor hx hb dA_valueOf_93 ?_
    refine lv_lload hx hb dA_valueOf_94 (lv_at hl 2 rfl) ?_
    refine lv_lload hx hb dA_valueOf_96 (lv_at hl 1 rfl) ?_
    refine lv_lor hx hb dA_valueOf_98 ?_
    refine lv_land hx hb dA_valueOf_99 ?_
    refine lv_lor hx hb dA_valueOf_100 ?_
    refine lv_topl (fun x9 ex9 => ?_)
    refine lv_lstore (lv' := [(16, .long x9), (14, .long x8), (12, .long x7), (10, .long x6), (8, .long x5), (6, .long x4), (4, .long x2), (2, .long x1), (0, .long x)]) hx hb dA_valueOf_101 hl (by decide) rfl (fun ls hl => ?_)
    refine lv_lload hx hb dA_valueOf_103 (lv_at hl 5 rfl) ?_
    refine lv_lload hx hb dA_valueOf_105 (lv_at hl 4 rfl) ?_
    refine lv_land hx hb dA_valueOf_107 ?_
    refine lv_lload hx hb dA_valueOf_108 (lv_at hl 3 rfl) ?_
    refine lv_lload hx hb dA_valueOf_110 (lv_at hl 2 rfl) ?_
    refine lv_lor hx hb dA_valueOf_112 ?_
    refine lv_land hx hb dA_valueOf_113 ?_
    refine lv_lload hx hb dA_valueOf_114 (lv_at hl 3 rfl) ?_
    refine lv_lload hx hb dA_valueOf_116 (lv_at hl 2 rfl) ?_
    refine lv_land hx hb dA_valueOf_118 ?_
    refine lv_lload hx hb dA_valueOf_119 (lv_at hl 5 rfl) ?_
    refine lv_lload hx hb dA_valueOf_121 (lv_at hl 4 rfl) ?_
    refine lv_lor hx hb dA_valueOf_123 ?_
    refine lv_land hx hb dA_valueOf_124 ?_
    refine lv_lor hx hb dA_valueOf_125 ?_
    refine lv_topl (fun x10 ex10 => ?_)
    refine lv_lstore (lv' := [(18, .long x10), (16, .long x9), (14, .long x8), (12, .long x7), (10, .long x6), (8, .long x5), (6, .long x4), (4, .long x2), (2, .long x1), (0, .long x)]) hx hb dA_valueOf_126 hl (by decide) rfl (fun ls hl => ?_)
    refine lv_lload hx hb dA_valueOf_128 (lv_at hl 6 rfl) ?_
    refine lv_lload hx hb dA_valueOf_130 (lv_at hl 5 rfl) ?_
    refine lv_land hx hb dA_valueOf_132 ?_
    refine lv_lload hx hb dA_valueOf_133 (lv_at hl 4 rfl) ?_
    refine lv_land hx hb dA_valueOf_135 ?_
    refine lv_lload hx hb dA_valueOf_136 (lv_at hl 3 rfl) ?_
    refine lv_land hx hb dA_valueOf_138 ?_
    refine lv_topl (fun x11 ex11 => ?_)
    refine lv_lstore (lv' := [(20, .long x11), (18, .long x10), (16, .long x9), (14, .long x8), (12, .long x7), (10, .long x6), (8, .long x5), (6, .long x4), (4, .long x2), (2, .long x1), (0, .long x)]) hx hb dA_valueOf_139 hl (by decide) rfl (fun ls hl => ?_)
    refine lv_lload hx hb dA_valueOf_141 (lv_at hl 0 rfl) ?_
    refine lv_lconst (v := 0) hx hb dA_valueOf_143 (by decide) ?_
    refine jv_lceq (tgt := 180) hx hb dA_valueOf_144 dA_valueOf_145 (by decide) (fun hc12 => ?_) (fun hc12 => ?_)
    · refine lv_lload hx hb dA_valueOf_180 (lv_at hl 1 rfl) ?_
      refine pu_S (cA_highest l _) rfl kA_A_highest hS bl_T trivial rfl ⟨Nat.le_of_ble_eq_true rfl, Nat.le_of_ble_eq_true rfl⟩ hl.1 rfl (Nat.le_of_ble_eq_true rfl) ⟨Nat.zero_le _, Nat.zero_le _⟩ dA_valueOf_182 ?_
      refine lv_topi (fun x13 ex13 => ?_)
      refine lv_istore (lv' := [(22, .int x13), (20, .long x11), (18, .long x10), (16, .long x9), (14, .long x8), (12, .long x7), (10, .long x6), (8, .long x5), (6, .long x4), (4, .long x2), (2, .long x1), (0, .long x)]) hx hb dA_valueOf_185 hl (by decide) rfl (fun ls hl => ?_)
      refine lv_lload hx hb dA_valueOf_187 (lv_at hl 2 rfl) ?_
      refine lv_lconst (v := 0) hx hb dA_valueOf_189 (by decide) ?_
      refine jv_lceq (tgt := 231) hx hb dA_valueOf_190 dA_valueOf_191 (by decide) (fun hc14 => ?_) (fun hc14 => ?_)
      · refine lv_lload_n hx hb dA_valueOf_231 rfl (lv_at hl 10 rfl) ?_
        refine lv_lconst (v := 0) hx hb dA_valueOf_232 (by decide) ?_
        refine jv_lceq (tgt := 248) hx hb dA_valueOf_233 dA_valueOf_234 (by decide) (fun hc15 => ?_) (fun hc15 => ?_)
        · refine lv_lload hx hb dA_valueOf_248 (lv_at hl 4 rfl) ?_
          refine pu_S (cA_straights l _) rfl kA_A_straights hS bl_T trivial rfl ⟨Nat.le_of_ble_eq_true rfl, Nat.le_of_ble_eq_true rfl⟩ hl.1 rfl (Nat.le_of_ble_eq_true rfl) ⟨Nat.zero_le _, Nat.zero_le _⟩ dA_valueOf_250 ?_
          refine lv_topl (fun x16 ex16 => ?_)
          refine lv_lstore (lv' := [(23, .long x16), (22, .int x13), (20, .long x11), (18, .long x10), (16, .long x9), (14, .long x8), (12, .long x7), (10, .long x6), (8, .long x5), (6, .long x4), (4, .long x2), (2, .long x1), (0, .long x)]) hx hb dA_valueOf_253 hl (by decide) rfl (fun ls hl => ?_)
          refine lv_lload hx hb dA_valueOf_255 (lv_at hl 0 rfl) ?_
          refine lv_lconst (v := 0) hx hb dA_valueOf_257 (by decide) ?_
          refine jv_lceq (tgt := 274) hx hb dA_valueOf_258 dA_valueOf_259 (by decide) (fun hc17 => ?_) (fun hc17 => ?_)
          · refine lv_lload hx hb dA_valueOf_274 (lv_at hl 3 rfl) ?_
            refine lv_lconst (v := 0) hx hb dA_valueOf_276 (by decide) ?_
            refine jv_lceq (tgt := 305) hx hb dA_valueOf_277 dA_valueOf_278 (by decide) (fun hc18 => ?_) (fun hc18 => ?_)
            · refine lv_lload hx hb dA_valueOf_305 (lv_at hl 4 rfl) ?_
              refine lv_lconst (v := 0) hx hb dA_valueOf_307 (by decide) ?_
              refine jv_lceq (tgt := 322) hx hb dA_valueOf_308 dA_valueOf_309 (by decide) (fun hc19 => ?_) (fun hc19 => ?_)
              · refine ta_get hx hb hT1 hown (hts _ (wd_in (gw_mem 175 rfl rfl))) dA_valueOf_322 ?_
                refine lv_iconst (v := 0) hx hb dA_valueOf_325 (by decide) ?_
                refine ta_ld hx hb hT1 (by unfold vp_in; decide) dA_valueOf_326 ?_
                refine lv_lload hx hb dA_valueOf_327 (lv_at hl 5 rfl) ?_
                refine pu_S (cA_placeBesideStraights l _ (by subst_vars; exact rk_or (rk_or (rk_or (rk_m _) (rk_m _)) (rk_m _)) (rk_m _))) rfl kA_A_placeBesideStraights hS bl_ta hB rfl ⟨Nat.le_of_ble_eq_true rfl, Nat.le_of_ble_eq_true rfl⟩ hl.1 rfl (Nat.le_of_ble_eq_true rfl) ⟨Nat.zero_le _, Nat.zero_le _⟩ dA_valueOf_329 ?_
                refine lv_iadd hx hb dA_valueOf_332 ?_
                exact pu_iret hx hb hr hlk dA_valueOf_333 (by subst ex16 ex13 ex11 ex10 ex9 ex8 ex7 ex6 ex5 ex4 ex2 ex1; first | contradiction | ((try simp only [f_valueOf, v_1, v_2, v_3, if_pos hc3, if_pos hc12, if_pos hc14, if_pos hc15, if_pos hc17, if_pos hc18, if_pos hc19]) <;> rfl))
              · refine lv_lload hx hb dA_valueOf_312 (lv_at hl 5 rfl) ?_
                refine lv_lload hx hb dA_valueOf_314 (lv_at hl 4 rfl) ?_
                refine pu_S (cA_pairsValue l _ _ (by subst_vars; exact rk_or (rk_or (rk_or (rk_m _) (rk_m _)) (rk_m _)) (rk_m _)) (by subst_vars; exact rk_or (rk_or (rk_and _ (rk_m _)) (rk_and _ (rk_m _))) (rk_and _ (rk_or (rk_m _) (rk_m _))))) rfl kA_A_pairsValue hS bl_ta hB rfl ⟨Nat.le_of_ble_eq_true rfl, Nat.le_of_ble_eq_true rfl⟩ hl.1 rfl (Nat.le_of_ble_eq_true rfl) ⟨Nat.zero_le _, Nat.zero_le _⟩ dA_valueOf_316 ?_
                refine lv_goto (tgt := 333) hx hb dA_valueOf_319 (by decide) ?_
                exact pu_iret hx hb hr hlk dA_valueOf_333 (by subst ex16 ex13 ex11 ex10 ex9 ex8 ex7 ex6 ex5 ex4 ex2 ex1; first | contradiction | ((try simp only [f_valueOf, v_1, v_2, v_3, if_pos hc3, if_pos hc12, if_pos hc14, if_pos hc15, if_pos hc17, if_pos hc18, if_neg hc19]) <;> rfl))
            · refine ta_get hx hb hT1 hown (hts _ (wd_in (gw_mem 175 rfl rfl))) dA_valueOf_281 ?_
              refine lv_iconst (v := 3) hx hb dA_valueOf_284 (by decide) ?_
              refine ta_ld hx hb hT1 (by unfold vp_in; decide) dA_valueOf_285 ?_
              refine lv_iload hx hb dA_valueOf_286 (lv_at hl 1 rfl) ?_
              refine lv_bipush (v := 66) hx hb dA_valueOf_288 (by decide) ?_
              refine lv_imul hx hb dA_valueOf_290 ?_
              refine lv_iadd hx hb dA_valueOf_291 ?_
              refine lv_lload hx hb dA_valueOf_292 (lv_at hl 5 rfl) ?_
              refine lv_iload hx hb dA_valueOf_294 (lv_at hl 1 rfl) ?_
              refine pu_S (cA_without l _ _) rfl kA_A_without hS bl_T trivial rfl ⟨Nat.le_of_ble_eq_true rfl, Nat.le_of_ble_eq_true rfl⟩ hl.1 rfl (Nat.le_of_ble_eq_true rfl) ⟨Nat.zero_le _, Nat.zero_le _⟩ dA_valueOf_296 ?_
              refine lv_iconst (v := 2) hx hb dA_valueOf_299 (by decide) ?_
              refine pu_S (cA_placeOf l _ 2 (by decide) (by subst_vars; exact rk_wo _ (rk_or (rk_or (rk_or (rk_m _) (rk_m _)) (rk_m _)) (rk_m _)))) rfl kA_A_placeOf hS bl_ta hB rfl ⟨Nat.le_of_ble_eq_true rfl, Nat.le_of_ble_eq_true rfl⟩ hl.1 rfl (Nat.le_of_ble_eq_true rfl) ⟨Nat.zero_le _, Nat.zero_le _⟩ dA_valueOf_300 ?_
              refine lv_iadd hx hb dA_valueOf_303 ?_
              exact pu_iret hx hb hr hlk dA_valueOf_304 (by subst ex16 ex13 ex11 ex10 ex9 ex8 ex7 ex6 ex5 ex4 ex2 ex1; first | contradiction | ((try simp only [f_valueOf, v_1, v_2, v_3, if_pos hc3, if_pos hc12, if_pos hc14, if_pos hc15, if_pos hc17, if_neg hc18]) <;> rfl))
          · refine ta_get hx hb hT1 hown (hts _ (wd_in (gw_mem 175 rfl rfl))) dA_valueOf_262 ?_
            refine lv_iconst (v := 4) hx hb dA_valueOf_265 (by decide) ?_
            refine ta_ld hx hb hT1 (by unfold vp_in; decide) dA_valueOf_266 ?_
            refine lv_lload hx hb dA_valueOf_267 (lv_at hl 0 rfl) ?_
            refine pu_S (cA_highest l _) rfl kA_A_highest hS bl_T trivial rfl ⟨Nat.le_of_ble_eq_true rfl, Nat.le_of_ble_eq_true rfl⟩ hl.1 rfl (Nat.le_of_ble_eq_true rfl) ⟨Nat.zero_le _, Nat.zero_le _⟩ dA_valueOf_269 ?_
            refine lv_iadd hx hb dA_valueOf_272 ?_
            exact pu_iret hx hb hr hlk dA_valueOf_273 (by subst ex16 ex13 ex11 ex10 ex9 ex8 ex7 ex6 ex5 ex4 ex2 ex1; first | contradiction | ((try simp only [f_valueOf, v_1, v_2, v_3, if_pos hc3, if_pos hc12, if_pos hc14, if_pos hc15, if_neg hc17]) <;> rfl))
        · refine ta_get hx hb hT1 hown (hts _ (wd_in (gw_mem 175 rfl rfl))) dA_valueOf_237 ?_
          refine lv_iconst (v := 5) hx hb dA_valueOf_240 (by decide) ?_
          refine ta_ld hx hb hT1 (by unfold vp_in; decide) dA_valueOf_241 ?_
          refine lv_lload_n hx hb dA_valueOf_242 rfl (lv_at hl 10 rfl) ?_
          refine pu_S (cA_placeBesideStraights l _ (by subst_vars; exact rk_su _)) rfl kA_A_placeBesideStraights hS bl_ta hB rfl ⟨Nat.le_of_ble_eq_true rfl, Nat.le_of_ble_eq_true rfl⟩ hl.1 rfl (Nat.le_of_ble_eq_true rfl) ⟨Nat.zero_le _, Nat.zero_le _⟩ dA_valueOf_243 ?_
          refine lv_iadd hx hb dA_valueOf_246 ?_
          exact pu_iret hx hb hr hlk dA_valueOf_247 (by subst ex13 ex11 ex10 ex9 ex8 ex7 ex6 ex5 ex4 ex2 ex1; first | contradiction | ((try simp only [f_valueOf, v_1, v_2, v_3, if_pos hc3, if_pos hc12, if_pos hc14, if_neg hc15]) <;> rfl))
      · refine lv_lload hx hb dA_valueOf_194 (lv_at hl 3 rfl) ?_
        refine lv_iload hx hb dA_valueOf_196 (lv_at hl 0 rfl) ?_
        refine pu_S (cA_without l _ _) rfl kA_A_without hS bl_T trivial rfl ⟨Nat.le_of_ble_eq_true rfl, Nat.le_of_ble_eq_true rfl⟩ hl.1 rfl (Nat.le_of_ble_eq_true rfl) ⟨Nat.zero_le _, Nat.zero_le _⟩ dA_valueOf_198 ?_
        refine lv_lconst (v := 0) hx hb dA_valueOf_201 (by decide) ?_
        refine jv_lceq (tgt := 231) hx hb dA_valueOf_202 dA_valueOf_203 (by decide) (fun hc20 => ?_) (fun hc20 => ?_)
        · refine lv_lload_n hx hb dA_valueOf_231 rfl (lv_at hl 10 rfl) ?_
          refine lv_lconst (v := 0) hx hb dA_valueOf_232 (by decide) ?_
          refine jv_lceq (tgt := 248) hx hb dA_valueOf_233 dA_valueOf_234 (by decide) (fun hc21 => ?_) (fun hc21 => ?_)
          · refine lv_lload hx hb dA_valueOf_248 (lv_at hl 4 rfl) ?_
            refine pu_S (cA_straights l _) rfl kA_A_straights hS bl_T trivial rfl ⟨Nat.le_of_ble_eq_true rfl, Nat.le_of_ble_eq_true rfl⟩ hl.1 rfl (Nat.le_of_ble_eq_true rfl) ⟨Nat.zero_le _, Nat.zero_le _⟩ dA_valueOf_250 ?_
            refine lv_topl (fun x22 ex22 => ?_)
            refine lv_lstore (lv' := [(23, .long x22), (22, .int x13), (20, .long x11), (18, .long x10), (16, .long x9), (14, .long x8), (12, .long x7), (10, .long x6), (8, .long x5), (6, .long x4), (4, .long x2), (2, .long x1), (0, .long x)]) hx hb dA_valueOf_253 hl (by decide) rfl (fun ls hl => ?_)
            refine lv_lload hx hb dA_valueOf_255 (lv_at hl 0 rfl) ?_
            refine lv_lconst (v := 0) hx hb dA_valueOf_257 (by decide) ?_
            refine jv_lceq (tgt := 274) hx hb dA_valueOf_258 dA_valueOf_259 (by decide) (fun hc23 => ?_) (fun hc23 => ?_)
            · refine lv_lload hx hb dA_valueOf_274 (lv_at hl 3 rfl) ?_
              refine lv_lconst (v := 0) hx hb dA_valueOf_276 (by decide) ?_
              refine jv_lceq (tgt := 305) hx hb dA_valueOf_277 dA_valueOf_278 (by decide) (fun hc24 => ?_) (fun hc24 => ?_)
              · refine lv_lload hx hb dA_valueOf_305 (lv_at hl 4 rfl) ?_
                refine lv_lconst (v := 0) hx hb dA_valueOf_307 (by decide) ?_
                refine jv_lceq (tgt := 322) hx hb dA_valueOf_308 dA_valueOf_309 (by decide) (fun hc25 => ?_) (fun hc25 => ?_)
                · refine ta_get hx hb hT1 hown (hts _ (wd_in (gw_mem 175 rfl rfl))) dA_valueOf_322 ?_
                  refine lv_iconst (v := 0) hx hb dA_valueOf_325 (by decide) ?_
                  refine ta_ld hx hb hT1 (by unfold vp_in; decide) dA_valueOf_326 ?_
                  refine lv_lload hx hb dA_valueOf_327 (lv_at hl 5 rfl) ?_
                  refine pu_S (cA_placeBesideStraights l _ (by subst_vars; exact rk_or (rk_or (rk_or (rk_m _) (rk_m _)) (rk_m _)) (rk_m _))) rfl kA_A_placeBesideStraights hS bl_ta hB rfl ⟨Nat.le_of_ble_eq_true rfl, Nat.le_of_ble_eq_true rfl⟩ hl.1 rfl (Nat.le_of_ble_eq_true rfl) ⟨Nat.zero_le _, Nat.zero_le _⟩ dA_valueOf_329 ?_
                  refine lv_iadd hx hb dA_valueOf_332 ?_
                  exact pu_iret hx hb hr hlk dA_valueOf_333 (by subst ex22 ex13 ex11 ex10 ex9 ex8 ex7 ex6 ex5 ex4 ex2 ex1; first | contradiction | ((try simp only [f_valueOf, v_1, v_2, v_3, if_pos hc3, if_pos hc12, if_neg hc14, if_pos hc20, if_pos hc21, if_pos hc23, if_pos hc24, if_pos hc25]) <;> rfl))
                · refine lv_lload hx hb dA_valueOf_312 (lv_at hl 5 rfl) ?_
                  refine lv_lload hx hb dA_valueOf_314 (lv_at hl 4 rfl) ?_
                  refine pu_S (cA_pairsValue l _ _ (by subst_vars; exact rk_or (rk_or (rk_or (rk_m _) (rk_m _)) (rk_m _)) (rk_m _)) (by subst_vars; exact rk_or (rk_or (rk_and _ (rk_m _)) (rk_and _ (rk_m _))) (rk_and _ (rk_or (rk_m _) (rk_m _))))) rfl kA_A_pairsValue hS bl_ta hB rfl ⟨Nat.le_of_ble_eq_true rfl, Nat.le_of_ble_eq_true rfl⟩ hl.1 rfl (Nat.le_of_ble_eq_true rfl) ⟨Nat.zero_le _, Nat.zero_le _⟩ dA_valueOf_316 ?_
                  refine lv_goto (tgt := 333) hx hb dA_valueOf_319 (by decide) ?_
                  exact pu_iret hx hb hr hlk dA_valueOf_333 (by subst ex22 ex13 ex11 ex10 ex9 ex8 ex7 ex6 ex5 ex4 ex2 ex1; first | contradiction | ((try simp only [f_valueOf, v_1, v_2, v_3, if_pos hc3, if_pos hc12, if_neg hc14, if_pos hc20, if_pos hc21, if_pos hc23, if_pos hc24, if_neg hc25]) <;> rfl))
              · refine ta_get hx hb hT1 hown (hts _ (wd_in (gw_mem 175 rfl rfl))) dA_valueOf_281 ?_
                refine lv_iconst (v := 3) hx hb dA_valueOf_284 (by decide) ?_
                refine ta_ld hx hb hT1 (by unfold vp_in; decide) dA_valueOf_285 ?_
                refine lv_iload hx hb dA_valueOf_286 (lv_at hl 1 rfl) ?_
                refine lv_bipush (v := 66) hx hb dA_valueOf_288 (by decide) ?_
                refine lv_imul hx hb dA_valueOf_290 ?_
                refine lv_iadd hx hb dA_valueOf_291 ?_
                refine lv_lload hx hb dA_valueOf_292 (lv_at hl 5 rfl) ?_
                refine lv_iload hx hb dA_valueOf_294 (lv_at hl 1 rfl) ?_
                refine pu_S (cA_without l _ _) rfl kA_A_without hS bl_T trivial rfl ⟨Nat.le_of_ble_eq_true rfl, Nat.le_of_ble_eq_true rfl⟩ hl.1 rfl (Nat.le_of_ble_eq_true rfl) ⟨Nat.zero_le _, Nat.zero_le _⟩ dA_valueOf_296 ?_
                refine lv_iconst (v := 2) hx hb dA_valueOf_299 (by decide) ?_
                refine pu_S (cA_placeOf l _ 2 (by decide) (by subst_vars; exact rk_wo _ (rk_or (rk_or (rk_or (rk_m _) (rk_m _)) (rk_m _)) (rk_m _)))) rfl kA_A_placeOf hS bl_ta hB rfl ⟨Nat.le_of_ble_eq_true rfl, Nat.le_of_ble_eq_true rfl⟩ hl.1 rfl (Nat.le_of_ble_eq_true rfl) ⟨Nat.zero_le _, Nat.zero_le _⟩ dA_valueOf_300 ?_
                refine lv_iadd hx hb dA_valueOf_303 ?_
                exact pu_iret hx hb hr hlk dA_valueOf_304 (by subst ex22 ex13 ex11 ex10 ex9 ex8 ex7 ex6 ex5 ex4 ex2 ex1; first | contradiction | ((try simp only [f_valueOf, v_1, v_2, v_3, if_pos hc3, if_pos hc12, if_neg hc14, if_pos hc20, if_pos hc21, if_pos hc23, if_neg hc24]) <;> rfl))
            · refine ta_get hx hb hT1 hown (hts _ (wd_in (gw_mem 175 rfl rfl))) dA_valueOf_262 ?_
              refine lv_iconst (v := 4) hx hb dA_valueOf_265 (by decide) ?_
              refine ta_ld hx hb hT1 (by unfold vp_in; decide) dA_valueOf_266 ?_
              refine lv_lload hx hb dA_valueOf_267 (lv_at hl 0 rfl) ?_
              refine pu_S (cA_highest l _) rfl kA_A_highest hS bl_T trivial rfl ⟨Nat.le_of_ble_eq_true rfl, Nat.le_of_ble_eq_true rfl⟩ hl.1 rfl (Nat.le_of_ble_eq_true rfl) ⟨Nat.zero_le _, Nat.zero_le _⟩ dA_valueOf_269 ?_
              refine lv_iadd hx hb dA_valueOf_272 ?_
              exact pu_iret hx hb hr hlk dA_valueOf_273 (by subst ex22 ex13 ex11 ex10 ex9 ex8 ex7 ex6 ex5 ex4 ex2 ex1; first | contradiction | ((try simp only [f_valueOf, v_1, v_2, v_3, if_pos hc3, if_pos hc12, if_neg hc14, if_pos hc20, if_pos hc21, if_neg hc23]) <;> rfl))
          · refine ta_get hx hb hT1 hown (hts _ (wd_in (gw_mem 175 rfl rfl))) dA_valueOf_237 ?_
            refine lv_iconst (v := 5) hx hb dA_valueOf_240 (by decide) ?_
            refine ta_ld hx hb hT1 (by unfold vp_in; decide) dA_valueOf_241 ?_
            refine lv_lload_n hx hb dA_valueOf_242 rfl (lv_at hl 10 rfl) ?_
            refine pu_S (cA_placeBesideStraights l _ (by subst_vars; exact rk_su _)) rfl kA_A_placeBesideStraights hS bl_ta hB rfl ⟨Nat.le_of_ble_eq_true rfl, Nat.le_of_ble_eq_true rfl⟩ hl.1 rfl (Nat.le_of_ble_eq_true rfl) ⟨Nat.zero_le _, Nat.zero_le _⟩ dA_valueOf_243 ?_
            refine lv_iadd hx hb dA_valueOf_246 ?_
            exact pu_iret hx hb hr hlk dA_valueOf_247 (by subst ex13 ex11 ex10 ex9 ex8 ex7 ex6 ex5 ex4 ex2 ex1; first | contradiction | ((try simp only [f_valueOf, v_1, v_2, v_3, if_pos hc3, if_pos hc12, if_neg hc14, if_pos hc20, if_neg hc21]) <;> rfl))
        · refine ta_get hx hb hT1 hown (hts _ (wd_in (gw_mem 175 rfl rfl))) dA_valueOf_206 ?_
          refine lv_bipush (v := 6) hx hb dA_valueOf_209 (by decide) ?_
          refine ta_ld hx hb hT1 (by unfold vp_in; decide) dA_valueOf_211 ?_
          refine lv_iload hx hb dA_valueOf_212 (lv_at hl 0 rfl) ?_
          refine lv_bipush (v := 12) hx hb dA_valueOf_214 (by decide) ?_
          refine lv_imul hx hb dA_valueOf_216 ?_
          refine lv_iadd hx hb dA_valueOf_217 ?_
          refine lv_lload hx hb dA_valueOf_218 (lv_at hl 3 rfl) ?_
          refine lv_iload hx hb dA_valueOf_220 (lv_at hl 0 rfl) ?_
          refine pu_S (cA_without l _ _) rfl kA_A_without hS bl_T trivial rfl ⟨Nat.le_of_ble_eq_true rfl, Nat.le_of_ble_eq_true rfl⟩ hl.1 rfl (Nat.le_of_ble_eq_true rfl) ⟨Nat.zero_le _, Nat.zero_le _⟩ dA_valueOf_222 ?_
          refine lv_iconst (v := 1) hx hb dA_valueOf_225 (by decide) ?_
          refine pu_S (cA_placeOf l _ 1 (by decide) (by subst_vars; exact rk_wo _ (rk_or (rk_or (rk_and _ (rk_m _)) (rk_and _ (rk_m _))) (rk_and _ (rk_or (rk_m _) (rk_m _)))))) rfl kA_A_placeOf hS bl_ta hB rfl ⟨Nat.le_of_ble_eq_true rfl, Nat.le_of_ble_eq_true rfl⟩ hl.1 rfl (Nat.le_of_ble_eq_true rfl) ⟨Nat.zero_le _, Nat.zero_le _⟩ dA_valueOf_226 ?_
          refine lv_iadd hx hb dA_valueOf_229 ?_
          exact pu_iret hx hb hr hlk dA_valueOf_230 (by subst ex13 ex11 ex10 ex9 ex8 ex7 ex6 ex5 ex4 ex2 ex1; first | contradiction | ((try simp only [f_valueOf, v_1, v_2, v_3, if_pos hc3, if_pos hc12, if_neg hc14, if_neg hc20]) <;> rfl))
    · refine lv_lload hx hb dA_valueOf_148 (lv_at hl 0 rfl) ?_
      refine pu_S (cA_highest l _) rfl kA_A_highest hS bl_T trivial rfl ⟨Nat.le_of_ble_eq_true rfl, Nat.le_of_ble_eq_true rfl⟩ hl.1 rfl (Nat.le_of_ble_eq_true rfl) ⟨Nat.zero_le _, Nat.zero_le _⟩ dA_valueOf_150 ?_
      refine lv_topi (fun x26 ex26 => ?_)
      refine lv_istore (lv' := [(22, .int x26), (20, .long x11), (18, .long x10), (16, .long x9), (14, .long x8), (12, .long x7), (10, .long x6), (8, .long x5), (6, .long x4), (4, .long x2), (2, .long x1), (0, .long x)]) hx hb dA_valueOf_153 hl (by decide) rfl (fun ls hl => ?_)
      refine ta_get hx hb hT1 hown (hts _ (wd_in (gw_mem 175 rfl rfl))) dA_valueOf_155 ?_
      refine lv_bipush (v := 7) hx hb dA_valueOf_158 (by decide) ?_
      refine ta_ld hx hb hT1 (by unfold vp_in; decide) dA_valueOf_160 ?_
      refine lv_iload hx hb dA_valueOf_161 (lv_at hl 0 rfl) ?_
      refine lv_bipush (v := 12) hx hb dA_valueOf_163 (by decide) ?_
      refine lv_imul hx hb dA_valueOf_165 ?_
      refine lv_iadd hx hb dA_valueOf_166 ?_
      refine lv_lload hx hb dA_valueOf_167 (lv_at hl 4 rfl) ?_
      refine lv_iload hx hb dA_valueOf_169 (lv_at hl 0 rfl) ?_
      refine pu_S (cA_without l _ _) rfl kA_A_without hS bl_T trivial rfl ⟨Nat.le_of_ble_eq_true rfl, Nat.le_of_ble_eq_true rfl⟩ hl.1 rfl (Nat.le_of_ble_eq_true rfl) ⟨Nat.zero_le _, Nat.zero_le _⟩ dA_valueOf_171 ?_
      refine lv_iconst (v := 1) hx hb dA_valueOf_174 (by decide) ?_
      refine pu_S (cA_placeOf l _ 1 (by decide) (by subst_vars; exact rk_wo _ (rk_or (rk_or (rk_or (rk_m _) (rk_m _)) (rk_m _)) (rk_m _)))) rfl kA_A_placeOf hS bl_ta hB rfl ⟨Nat.le_of_ble_eq_true rfl, Nat.le_of_ble_eq_true rfl⟩ hl.1 rfl (Nat.le_of_ble_eq_true rfl) ⟨Nat.zero_le _, Nat.zero_le _⟩ dA_valueOf_175 ?_
      refine lv_iadd hx hb dA_valueOf_178 ?_
      exact pu_iret hx hb hr hlk dA_valueOf_179 (by subst ex26 ex11 ex10 ex9 ex8 ex7 ex6 ex5 ex4 ex2 ex1; first | contradiction | ((try simp only [f_valueOf, v_1, v_2, v_3, if_pos hc3, if_neg hc12]) <;> rfl))
  · refine ta_get hx hb hT1 hown (hts _ (wd_in (gw_mem 175 rfl rfl))) dA_valueOf_18 ?_
    refine lv_bipush (v := 8) hx hb dA_valueOf_21 (by decide) ?_
    refine ta_ld hx hb hT1 (by unfold vp_in; decide) dA_valueOf_23 ?_
    refine lv_lload hx hb dA_valueOf_24 (lv_at hl 0 rfl) ?_
    refine pu_S (cA_highest l _) rfl kA_A_highest hS bl_T trivial rfl ⟨Nat.le_of_ble_eq_true rfl, Nat.le_of_ble_eq_true rfl⟩ hl.1 rfl (Nat.le_of_ble_eq_true rfl) ⟨Nat.zero_le _, Nat.zero_le _⟩ dA_valueOf_26 ?_
    refine lv_iadd hx hb dA_valueOf_29 ?_
    exact pu_iret hx hb hr hlk dA_valueOf_30 (by subst ex2 ex1; first | contradiction | ((try simp only [f_valueOf, v_1, v_2, v_3, if_neg hc3]) <;> rfl))
section PZ
variable {p : Program} {l : Launch} {e : Env} {R : Room} {s : State} {m : MethodId} {args : Array Value} {below : List Frame} {meth : Method} {c : Code} {cc : ByteArray} {pc : Nat} {ls : Array Slot}
theorem pu_zret {r v : Int32} (hexec : p.tables.exec = Jvm.exec) (hb : c.code = cc) (hr : meth.sig.returnType = some .boolean) (hlocks : meth.locks = false) (hdg : decode cc pc = .ok (.ireturn, 1)) (h01 : v = 0 ∨ v = 1) (hv : v = r) :
    W p l e R s m args below meth c s.heap [] 0 0 (MQ below (pu_Q (.int r)) args s 0 0 (fun _ => False)) (F0 m pc ls [.int v]) := by
  subst hv
  refine W.zret hexec hb hr ?_ (fun t ht _ => ⟨rfl, ht⟩) (fun q h => by cases h) hdg hlocks
  rcases h01 with h | h <;> subst h <;> rfl
end PZ
def f_five (x : Int64) (v : Int32) : Int32 := if f_bc x = 5 then if f_valueOf x = v then 1 else 0 else 0
def f_behind (k : Int32) (o : Int64) : Int32 := f_written (jl 1 (4 * k)) 0 + f_written (f_beside o k) 1
def f_rowp (q : Int32) : Int32 :=
  let ps := f_ranksAt (q / 11) 2
  f_written ps 0 + f_written (f_beside (f_beside (f_ranksAt (jrem q 11) 1) (f_highest (f_without ps (f_highest ps)))) (f_highest ps)) 2
def f_rowAt (c q : Int32) : Int32 :=
  if c = 1 then f_behind (q / 220) (f_ranksAt (jrem q 220) 3) else if c = 2 then f_rowp q else if c = 3 then f_behind (q / 66) (f_ranksAt (jrem q 66) 2)
  else if c = 4 then f_written (jl 1 (4 * (q + 3))) 0 else if c = 5 then f_written (f_rbs q) 0 else if c = 6 then f_behind (q / 12) (f_ranksAt (jrem q 12) 1)
  else if c = 7 then f_behind (q / 12) (f_ranksAt (jrem q 12) 1) else if c = 8 then f_written (jl 1 (4 * (q + 3))) 0 else f_written (f_rbs q) 0
theorem sw_o {c : Int32} (h1 : ¬ c = 1) (h2 : ¬ c = 2) (h3 : ¬ c = 3) (h4 : ¬ c = 4) (h5 : ¬ c = 5) (h6 : ¬ c = 6) (h7 : ¬ c = 7) (h8 : ¬ c = 8) : c.toInt < 1 ∨ 8 < c.toInt := by
  have g1 := lv_neT h1 (a := 1) rfl
  have g2 := lv_neT h2 (a := 2) rfl
  have g3 := lv_neT h3 (a := 3) rfl
  have g4 := lv_neT h4 (a := 4) rfl
  have g5 := lv_neT h5 (a := 5) rfl
  have g6 := lv_neT h6 (a := 6) rfl
  have g7 := lv_neT h7 (a := 7) rfl
  have g8 := lv_neT h8 (a := 8) rfl
  omega
def f_outcome (k b w : Int32) : Int32 :=
  if w &&& jli 1 k = 0 then 0 else if w = jli 1 k then (if b = 1 then 0 else 1) else (if b = 0 then 0 else 1)
set_option maxHeartbeats 4000000 in
set_option maxRecDepth 100000 in
theorem cA_isFiveWorth (l : Launch) (x : Int64) (v : Int32)  : pu_M l yA_isFiveWorth bA_isFiveWorth 3 (some .boolean) 5 [.long x, .int v] ta_F (.int (f_five x v)) := by
  refine Met.ofW (cc := bA_isFiveWorth) (maxL := 3) (ret := (some .boolean)) (by decide) rfl ?_
  intro p e s m args below meth c s₁ BB hml hv
  obtain ⟨rfl, hB⟩ := hv
  have hx := BB.exec
  have hb := BB.bytes
  have hr := BB.returns
  have hlk := BB.notSynchronized
  have hts := atoms_spec (ws := wd yA_isFiveWorth bA_isFiveWorth 3 (some .boolean)) BB.pre
  have hown : s.vm.findClass "HandTables" = some m.cls := findClass_of_methodNamed BB.named
  have hS : CallFix p m c bA_isFiveWorth 3 s _ (wd yA_isFiveWorth bA_isFiveWorth 3 (some .boolean)) "HandTables" := ⟨hx, hb, hml, hown, hts⟩
  obtain ⟨⟨t1, hT1⟩, ⟨t2, hT2⟩, ⟨t3, hT3⟩, ⟨t4, hT4⟩⟩ := id hB
  have hl := lv_entry ([.long x, .int v]) (n := 3) (Nat.le_of_ble_eq_true rfl)
  rw [lg_entry_eq]
  generalize (lg_sl ([.long x, .int v]) ++ List.replicate (3 - (lg_sl ([.long x, .int v])).length) Slot.unset).toArray = ls at hl ⊢
  have hl : lv_has ls 3 [(0, .long x), (2, .int v)] := hl
  refine lv_lload_n hx hb dA_isFiveWorth_0 rfl (lv_at hl 0 rfl) ?_
  refine pu_S (cJ_bitCount l _) rfl kA_J_bitCount hS bl_T trivial rfl ⟨Nat.le_of_ble_eq_true rfl, Nat.le_of_ble_eq_true rfl⟩ hl.1 rfl (Nat.le_of_ble_eq_true rfl) ⟨Nat.zero_le _, Nat.zero_le _⟩ dA_isFiveWorth_1 ?_
  refine lv_iconst (v := 5) hx hb dA_isFiveWorth_4 (by decide) ?_
  refine lv_icmp_ne (tgt := 20) hx hb dA_isFiveWorth_5 (by decide) (fun hc1 => ?_) (fun hc1 => ?_)
  · refine lv_iconst (v := 0) hx hb dA_isFiveWorth_20 (by decide) ?_
    exact pu_zret hx hb hr hlk dA_isFiveWorth_21 (by decide) (by first | contradiction | ((try simp only [f_five, if_neg hc1]) <;> rfl))
  · refine lv_lload_n hx hb dA_isFiveWorth_8 rfl (lv_at hl 0 rfl) ?_
    refine pu_S (cA_valueOf l _) rfl kA_A_valueOf hS bl_ta hB rfl ⟨Nat.le_of_ble_eq_true rfl, Nat.le_of_ble_eq_true rfl⟩ hl.1 rfl (Nat.le_of_ble_eq_true rfl) ⟨Nat.zero_le _, Nat.zero_le _⟩ dA_isFiveWorth_9 ?_
    refine lv_iload_n hx hb dA_isFiveWorth_12 rfl (lv_at hl 1 rfl) ?_
    refine lv_icmp_ne (tgt := 20) hx hb dA_isFiveWorth_13 (by decide) (fun hc2 => ?_) (fun hc2 => ?_)
    · refine lv_iconst (v := 0) hx hb dA_isFiveWorth_20 (by decide) ?_
      exact pu_zret hx hb hr hlk dA_isFiveWorth_21 (by decide) (by first | contradiction | ((try simp only [f_five, if_pos hc1, if_neg hc2]) <;> rfl))
    · refine lv_iconst (v := 1) hx hb dA_isFiveWorth_16 (by decide) ?_
      refine lv_goto (tgt := 21) hx hb dA_isFiveWorth_17 (by decide) ?_
      exact pu_zret hx hb hr hlk dA_isFiveWorth_21 (by decide) (by first | contradiction | ((try simp only [f_five, if_pos hc1, if_pos hc2]) <;> rfl))
set_option maxHeartbeats 4000000 in
set_option maxRecDepth 100000 in
theorem cA_rowBehind (l : Launch) (k : Int32) (o : Int64)  : pu_M l yA_rowBehind bA_rowBehind 3 (some .int) 1 [.int k, .long o] (fun _ => True) (.int (f_behind k o)) := by
  refine Met.ofW (cc := bA_rowBehind) (maxL := 3) (ret := (some .int)) (by decide) rfl ?_
  intro p e s m args below meth c s₁ BB hml hv
  obtain ⟨rfl, hB⟩ := hv
  have hx := BB.exec
  have hb := BB.bytes
  have hr := BB.returns
  have hlk := BB.notSynchronized
  have hts := atoms_spec (ws := wd yA_rowBehind bA_rowBehind 3 (some .int)) BB.pre
  have hown : s.vm.findClass "HandTables" = some m.cls := findClass_of_methodNamed BB.named
  have hS : CallFix p m c bA_rowBehind 3 s _ (wd yA_rowBehind bA_rowBehind 3 (some .int)) "HandTables" := ⟨hx, hb, hml, hown, hts⟩
  have hl := lv_entry ([.int k, .long o]) (n := 3) (Nat.le_of_ble_eq_true rfl)
  rw [lg_entry_eq]
  generalize (lg_sl ([.int k, .long o]) ++ List.replicate (3 - (lg_sl ([.int k, .long o])).length) Slot.unset).toArray = ls at hl ⊢
  have hl : lv_has ls 3 [(0, .int k), (1, .long o)] := hl
  refine lv_lconst (v := 1) hx hb dA_rowBehind_0 (by decide) ?_
  refine lv_iconst (v := 4) hx hb dA_rowBehind_1 (by decide) ?_
  refine lv_iload_n hx hb dA_rowBehind_2 rfl (lv_at hl 0 rfl) ?_
  refine lv_imul hx hb dA_rowBehind_3 ?_
  refine jv_lshl hx hb dA_rowBehind_4 ?_
  refine lv_iconst (v := 0) hx hb dA_rowBehind_5 (by decide) ?_
  refine pu_S (cA_written l _ _) rfl kA_A_written hS bl_T trivial rfl ⟨Nat.le_of_ble_eq_true rfl, Nat.le_of_ble_eq_true rfl⟩ hl.1 rfl (Nat.le_of_ble_eq_true rfl) ⟨Nat.zero_le _, Nat.zero_le _⟩ dA_rowBehind_6 ?_
  refine lv_lload_n hx hb dA_rowBehind_9 rfl (lv_at hl 1 rfl) ?_
  refine lv_iload_n hx hb dA_rowBehind_10 rfl (lv_at hl 0 rfl) ?_
  refine pu_S (cA_beside l _ _) rfl kA_A_beside hS bl_T trivial rfl ⟨Nat.le_of_ble_eq_true rfl, Nat.le_of_ble_eq_true rfl⟩ hl.1 rfl (Nat.le_of_ble_eq_true rfl) ⟨Nat.zero_le _, Nat.zero_le _⟩ dA_rowBehind_11 ?_
  refine lv_iconst (v := 1) hx hb dA_rowBehind_14 (by decide) ?_
  refine pu_S (cA_written l _ _) rfl kA_A_written hS bl_T trivial rfl ⟨Nat.le_of_ble_eq_true rfl, Nat.le_of_ble_eq_true rfl⟩ hl.1 rfl (Nat.le_of_ble_eq_true rfl) ⟨Nat.zero_le _, Nat.zero_le _⟩ dA_rowBehind_15 ?_
  refine lv_iadd hx hb dA_rowBehind_18 ?_
  exact pu_iret hx hb hr hlk dA_rowBehind_19 (by rfl)
set_option maxHeartbeats 4000000 in
set_option maxRecDepth 100000 in
theorem cA_rowOfPairs (l : Launch) (q : Int32)  : pu_M l yA_rowOfPairs bA_rowOfPairs 7 (some .int) 2 [.int q] ta_F (.int (f_rowp q)) := by
  refine Met.ofW (cc := bA_rowOfPairs) (maxL := 7) (ret := (some .int)) (by decide) rfl ?_
  intro p e s m args below meth c s₁ BB hml hv
  obtain ⟨rfl, hB⟩ := hv
  have hx := BB.exec
  have hb := BB.bytes
  have hr := BB.returns
  have hlk := BB.notSynchronized
  have hts := atoms_spec (ws := wd yA_rowOfPairs bA_rowOfPairs 7 (some .int)) BB.pre
  have hown : s.vm.findClass "HandTables" = some m.cls := findClass_of_methodNamed BB.named
  have hS : CallFix p m c bA_rowOfPairs 7 s _ (wd yA_rowOfPairs bA_rowOfPairs 7 (some .int)) "HandTables" := ⟨hx, hb, hml, hown, hts⟩
  obtain ⟨⟨t1, hT1⟩, ⟨t2, hT2⟩, ⟨t3, hT3⟩, ⟨t4, hT4⟩⟩ := id hB
  have hl := lv_entry ([.int q]) (n := 7) (Nat.le_of_ble_eq_true rfl)
  rw [lg_entry_eq]
  generalize (lg_sl ([.int q]) ++ List.replicate (7 - (lg_sl ([.int q])).length) Slot.unset).toArray = ls at hl ⊢
  have hl : lv_has ls 7 [(0, .int q)] := hl
  refine lv_iload_n hx hb dA_rowOfPairs_0 rfl (lv_at hl 0 rfl) ?_
  refine lv_bipush (v := 11) hx hb dA_rowOfPairs_1 (by decide) ?_
  refine lv_idiv hx hb dA_rowOfPairs_3 (by decide) ?_
  refine lv_iconst (v := 2) hx hb dA_rowOfPairs_4 (by decide) ?_
  refine pu_S (cA_ranksAt l _ 2 (by decide)) rfl kA_A_ranksAt hS bl_ta hB rfl ⟨Nat.le_of_ble_eq_true rfl, Nat.le_of_ble_eq_true rfl⟩ hl.1 rfl (Nat.le_of_ble_eq_true rfl) ⟨Nat.zero_le _, Nat.zero_le _⟩ dA_rowOfPairs_5 ?_
  refine lv_topl (fun x1 ex1 => ?_)
  refine lv_lstore_n (lv' := [(1, .long x1), (0, .int q)]) hx hb dA_rowOfPairs_8 rfl hl (by decide) rfl (fun ls hl => ?_)
  refine lv_lload_n hx hb dA_rowOfPairs_9 rfl (lv_at hl 0 rfl) ?_
  refine pu_S (cA_highest l _) rfl kA_A_highest hS bl_T trivial rfl ⟨Nat.le_of_ble_eq_true rfl, Nat.le_of_ble_eq_true rfl⟩ hl.1 rfl (Nat.le_of_ble_eq_true rfl) ⟨Nat.zero_le _, Nat.zero_le _⟩ dA_rowOfPairs_10 ?_
  refine lv_topi (fun x2 ex2 => ?_)
  refine lv_istore_n (lv' := [(3, .int x2), (1, .long x1), (0, .int q)]) hx hb dA_rowOfPairs_13 rfl hl (by decide) rfl (fun ls hl => ?_)
  refine lv_lload_n hx hb dA_rowOfPairs_14 rfl (lv_at hl 1 rfl) ?_
  refine lv_iload_n hx hb dA_rowOfPairs_15 rfl (lv_at hl 0 rfl) ?_
  refine pu_S (cA_without l _ _) rfl kA_A_without hS bl_T trivial rfl ⟨Nat.le_of_ble_eq_true rfl, Nat.le_of_ble_eq_true rfl⟩ hl.1 rfl (Nat.le_of_ble_eq_true rfl) ⟨Nat.zero_le _, Nat.zero_le _⟩ dA_rowOfPairs_16 ?_
  refine pu_S (cA_highest l _) rfl kA_A_highest hS bl_T trivial rfl ⟨Nat.le_of_ble_eq_true rfl, Nat.le_of_ble_eq_true rfl⟩ hl.1 rfl (Nat.le_of_ble_eq_true rfl) ⟨Nat.zero_le _, Nat.zero_le _⟩ dA_rowOfPairs_19 ?_
  refine lv_topi (fun x3 ex3 => ?_)
  refine lv_istore (lv' := [(4, .int x3), (3, .int x2), (1, .long x1), (0, .int q)]) hx hb dA_rowOfPairs_22 hl (by decide) rfl (fun ls hl => ?_)
  refine lv_iload_n hx hb dA_rowOfPairs_24 rfl (lv_at hl 3 rfl) ?_
  refine lv_bipush (v := 11) hx hb dA_rowOfPairs_25 (by decide) ?_
  refine jv_irem hx hb dA_rowOfPairs_27 (by decide) ?_
  refine lv_iconst (v := 1) hx hb dA_rowOfPairs_28 (by decide) ?_
  refine pu_S (cA_ranksAt l _ 1 (by decide)) rfl kA_A_ranksAt hS bl_ta hB rfl ⟨Nat.le_of_ble_eq_true rfl, Nat.le_of_ble_eq_true rfl⟩ hl.1 rfl (Nat.le_of_ble_eq_true rfl) ⟨Nat.zero_le _, Nat.zero_le _⟩ dA_rowOfPairs_29 ?_
  refine lv_iload hx hb dA_rowOfPairs_32 (lv_at hl 0 rfl) ?_
  refine pu_S (cA_beside l _ _) rfl kA_A_beside hS bl_T trivial rfl ⟨Nat.le_of_ble_eq_true rfl, Nat.le_of_ble_eq_true rfl⟩ hl.1 rfl (Nat.le_of_ble_eq_true rfl) ⟨Nat.zero_le _, Nat.zero_le _⟩ dA_rowOfPairs_34 ?_
  refine lv_iload_n hx hb dA_rowOfPairs_37 rfl (lv_at hl 1 rfl) ?_
  refine pu_S (cA_beside l _ _) rfl kA_A_beside hS bl_T trivial rfl ⟨Nat.le_of_ble_eq_true rfl, Nat.le_of_ble_eq_true rfl⟩ hl.1 rfl (Nat.le_of_ble_eq_true rfl) ⟨Nat.zero_le _, Nat.zero_le _⟩ dA_rowOfPairs_38 ?_
  refine lv_topl (fun x4 ex4 => ?_)
  refine lv_lstore (lv' := [(5, .long x4), (4, .int x3), (3, .int x2), (1, .long x1), (0, .int q)]) hx hb dA_rowOfPairs_41 hl (by decide) rfl (fun ls hl => ?_)
  refine lv_lload_n hx hb dA_rowOfPairs_43 rfl (lv_at hl 3 rfl) ?_
  refine lv_iconst (v := 0) hx hb dA_rowOfPairs_44 (by decide) ?_
  refine pu_S (cA_written l _ _) rfl kA_A_written hS bl_T trivial rfl ⟨Nat.le_of_ble_eq_true rfl, Nat.le_of_ble_eq_true rfl⟩ hl.1 rfl (Nat.le_of_ble_eq_true rfl) ⟨Nat.zero_le _, Nat.zero_le _⟩ dA_rowOfPairs_45 ?_
  refine lv_lload hx hb dA_rowOfPairs_48 (lv_at hl 0 rfl) ?_
  refine lv_iconst (v := 2) hx hb dA_rowOfPairs_50 (by decide) ?_
  refine pu_S (cA_written l _ _) rfl kA_A_written hS bl_T trivial rfl ⟨Nat.le_of_ble_eq_true rfl, Nat.le_of_ble_eq_true rfl⟩ hl.1 rfl (Nat.le_of_ble_eq_true rfl) ⟨Nat.zero_le _, Nat.zero_le _⟩ dA_rowOfPairs_51 ?_
  refine lv_iadd hx hb dA_rowOfPairs_54 ?_
  exact pu_iret hx hb hr hlk dA_rowOfPairs_55 (by subst ex4 ex3 ex2 ex1; rfl)
set_option maxHeartbeats 4000000 in
set_option maxRecDepth 100000 in
theorem cA_rowAt (l : Launch) (ca : Int32) (q : Int32)  : pu_M l yA_rowAt bA_rowAt 2 (some .int) 3 [.int ca, .int q] ta_F (.int (f_rowAt ca q)) := by
  refine Met.ofW (cc := bA_rowAt) (maxL := 2) (ret := (some .int)) (by decide) rfl ?_
  intro p e s m args below meth c s₁ BB hml hv
  obtain ⟨rfl, hB⟩ := hv
  have hx := BB.exec
  have hb := BB.bytes
  have hr := BB.returns
  have hlk := BB.notSynchronized
  have hts := atoms_spec (ws := wd yA_rowAt bA_rowAt 2 (some .int)) BB.pre
  have hown : s.vm.findClass "HandTables" = some m.cls := findClass_of_methodNamed BB.named
  have hS : CallFix p m c bA_rowAt 2 s _ (wd yA_rowAt bA_rowAt 2 (some .int)) "HandTables" := ⟨hx, hb, hml, hown, hts⟩
  obtain ⟨⟨t1, hT1⟩, ⟨t2, hT2⟩, ⟨t3, hT3⟩, ⟨t4, hT4⟩⟩ := id hB
  have hl := lv_entry ([.int ca, .int q]) (n := 2) (Nat.le_of_ble_eq_true rfl)
  rw [lg_entry_eq]
  generalize (lg_sl ([.int ca, .int q]) ++ List.replicate (2 - (lg_sl ([.int ca, .int q])).length) Slot.unset).toArray = ls at hl ⊢
  have hl : lv_has ls 2 [(0, .int ca), (1, .int q)] := hl
  refine lv_iload_n hx hb dA_rowAt_0 rfl (lv_at hl 0 rfl) ?_
  by_cases hc1 : ca = 1
  · refine lv_tableIn (off := 96) (tgt := 97) hx hb dA_rowAt_1 (by rw [hc1]; decide) (by rw [hc1]; decide) (by rw [hc1]; rfl) (by decide) ?_
    refine lv_iload_n hx hb dA_rowAt_97 rfl (lv_at hl 1 rfl) ?_
    refine lv_sipush (v := 220) hx hb dA_rowAt_98 (by decide) ?_
    refine lv_idiv hx hb dA_rowAt_101 (by decide) ?_
    refine lv_iload_n hx hb dA_rowAt_102 rfl (lv_at hl 1 rfl) ?_
    refine lv_sipush (v := 220) hx hb dA_rowAt_103 (by decide) ?_
    refine jv_irem hx hb dA_rowAt_106 (by decide) ?_
    refine lv_iconst (v := 3) hx hb dA_rowAt_107 (by decide) ?_
    refine pu_S (cA_ranksAt l _ 3 (by decide)) rfl kA_A_ranksAt hS bl_ta hB rfl ⟨Nat.le_of_ble_eq_true rfl, Nat.le_of_ble_eq_true rfl⟩ hl.1 rfl (Nat.le_of_ble_eq_true rfl) ⟨Nat.zero_le _, Nat.zero_le _⟩ dA_rowAt_108 ?_
    refine pu_S (cA_rowBehind l _ _) rfl kA_A_rowBehind hS bl_T trivial rfl ⟨Nat.le_of_ble_eq_true rfl, Nat.le_of_ble_eq_true rfl⟩ hl.1 rfl (Nat.le_of_ble_eq_true rfl) ⟨Nat.zero_le _, Nat.zero_le _⟩ dA_rowAt_111 ?_
    exact pu_iret hx hb hr hlk dA_rowAt_114 (by first | contradiction | ((try simp only [f_rowAt, if_pos hc1]) <;> rfl))
  by_cases hc2 : ca = 2
  · refine lv_tableIn (off := 91) (tgt := 92) hx hb dA_rowAt_1 (by rw [hc2]; decide) (by rw [hc2]; decide) (by rw [hc2]; rfl) (by decide) ?_
    refine lv_iload_n hx hb dA_rowAt_92 rfl (lv_at hl 1 rfl) ?_
    refine pu_S (cA_rowOfPairs l _) rfl kA_A_rowOfPairs hS bl_ta hB rfl ⟨Nat.le_of_ble_eq_true rfl, Nat.le_of_ble_eq_true rfl⟩ hl.1 rfl (Nat.le_of_ble_eq_true rfl) ⟨Nat.zero_le _, Nat.zero_le _⟩ dA_rowAt_93 ?_
    exact pu_iret hx hb hr hlk dA_rowAt_96 (by first | contradiction | ((try simp only [f_rowAt, if_neg hc1, if_pos hc2]) <;> rfl))
  by_cases hc3 : ca = 3
  · refine lv_tableIn (off := 75) (tgt := 76) hx hb dA_rowAt_1 (by rw [hc3]; decide) (by rw [hc3]; decide) (by rw [hc3]; rfl) (by decide) ?_
    refine lv_iload_n hx hb dA_rowAt_76 rfl (lv_at hl 1 rfl) ?_
    refine lv_bipush (v := 66) hx hb dA_rowAt_77 (by decide) ?_
    refine lv_idiv hx hb dA_rowAt_79 (by decide) ?_
    refine lv_iload_n hx hb dA_rowAt_80 rfl (lv_at hl 1 rfl) ?_
    refine lv_bipush (v := 66) hx hb dA_rowAt_81 (by decide) ?_
    refine jv_irem hx hb dA_rowAt_83 (by decide) ?_
    refine lv_iconst (v := 2) hx hb dA_rowAt_84 (by decide) ?_
    refine pu_S (cA_ranksAt l _ 2 (by decide)) rfl kA_A_ranksAt hS bl_ta hB rfl ⟨Nat.le_of_ble_eq_true rfl, Nat.le_of_ble_eq_true rfl⟩ hl.1 rfl (Nat.le_of_ble_eq_true rfl) ⟨Nat.zero_le _, Nat.zero_le _⟩ dA_rowAt_85 ?_
    refine pu_S (cA_rowBehind l _ _) rfl kA_A_rowBehind hS bl_T trivial rfl ⟨Nat.le_of_ble_eq_true rfl, Nat.le_of_ble_eq_true rfl⟩ hl.1 rfl (Nat.le_of_ble_eq_true rfl) ⟨Nat.zero_le _, Nat.zero_le _⟩ dA_rowAt_88 ?_
    exact pu_iret hx hb hr hlk dA_rowAt_91 (by first | contradiction | ((try simp only [f_rowAt, if_neg hc1, if_neg hc2, if_pos hc3]) <;> rfl))
  by_cases hc4 : ca = 4
  · refine lv_tableIn (off := 47) (tgt := 48) hx hb dA_rowAt_1 (by rw [hc4]; decide) (by rw [hc4]; decide) (by rw [hc4]; rfl) (by decide) ?_
    refine lv_lconst (v := 1) hx hb dA_rowAt_48 (by decide) ?_
    refine lv_iconst (v := 4) hx hb dA_rowAt_49 (by decide) ?_
    refine lv_iload_n hx hb dA_rowAt_50 rfl (lv_at hl 1 rfl) ?_
    refine lv_iconst (v := 3) hx hb dA_rowAt_51 (by decide) ?_
    refine lv_iadd hx hb dA_rowAt_52 ?_
    refine lv_imul hx hb dA_rowAt_53 ?_
    refine jv_lshl hx hb dA_rowAt_54 ?_
    refine lv_iconst (v := 0) hx hb dA_rowAt_55 (by decide) ?_
    refine pu_S (cA_written l _ _) rfl kA_A_written hS bl_T trivial rfl ⟨Nat.le_of_ble_eq_true rfl, Nat.le_of_ble_eq_true rfl⟩ hl.1 rfl (Nat.le_of_ble_eq_true rfl) ⟨Nat.zero_le _, Nat.zero_le _⟩ dA_rowAt_56 ?_
    exact pu_iret hx hb hr hlk dA_rowAt_59 (by first | contradiction | ((try simp only [f_rowAt, if_neg hc1, if_neg hc2, if_neg hc3, if_pos hc4]) <;> rfl))
  by_cases hc5 : ca = 5
  · refine lv_tableIn (off := 114) (tgt := 115) hx hb dA_rowAt_1 (by rw [hc5]; decide) (by rw [hc5]; decide) (by rw [hc5]; rfl) (by decide) ?_
    refine lv_iload_n hx hb dA_rowAt_115 rfl (lv_at hl 1 rfl) ?_
    refine pu_S (cA_ranksBesideStraights l _) rfl kA_A_ranksBesideStraights hS bl_ta hB rfl ⟨Nat.le_of_ble_eq_true rfl, Nat.le_of_ble_eq_true rfl⟩ hl.1 rfl (Nat.le_of_ble_eq_true rfl) ⟨Nat.zero_le _, Nat.zero_le _⟩ dA_rowAt_116 ?_
    refine lv_iconst (v := 0) hx hb dA_rowAt_119 (by decide) ?_
    refine pu_S (cA_written l _ _) rfl kA_A_written hS bl_T trivial rfl ⟨Nat.le_of_ble_eq_true rfl, Nat.le_of_ble_eq_true rfl⟩ hl.1 rfl (Nat.le_of_ble_eq_true rfl) ⟨Nat.zero_le _, Nat.zero_le _⟩ dA_rowAt_120 ?_
    exact pu_iret hx hb hr hlk dA_rowAt_123 (by first | contradiction | ((try simp only [f_rowAt, if_neg hc1, if_neg hc2, if_neg hc3, if_neg hc4, if_pos hc5]) <;> rfl))
  by_cases hc6 : ca = 6
  · refine lv_tableIn (off := 59) (tgt := 60) hx hb dA_rowAt_1 (by rw [hc6]; decide) (by rw [hc6]; decide) (by rw [hc6]; rfl) (by decide) ?_
    refine lv_iload_n hx hb dA_rowAt_60 rfl (lv_at hl 1 rfl) ?_
    refine lv_bipush (v := 12) hx hb dA_rowAt_61 (by decide) ?_
    refine lv_idiv hx hb dA_rowAt_63 (by decide) ?_
    refine lv_iload_n hx hb dA_rowAt_64 rfl (lv_at hl 1 rfl) ?_
    refine lv_bipush (v := 12) hx hb dA_rowAt_65 (by decide) ?_
    refine jv_irem hx hb dA_rowAt_67 (by decide) ?_
    refine lv_iconst (v := 1) hx hb dA_rowAt_68 (by decide) ?_
    refine pu_S (cA_ranksAt l _ 1 (by decide)) rfl kA_A_ranksAt hS bl_ta hB rfl ⟨Nat.le_of_ble_eq_true rfl, Nat.le_of_ble_eq_true rfl⟩ hl.1 rfl (Nat.le_of_ble_eq_true rfl) ⟨Nat.zero_le _, Nat.zero_le _⟩ dA_rowAt_69 ?_
    refine pu_S (cA_rowBehind l _ _) rfl kA_A_rowBehind hS bl_T trivial rfl ⟨Nat.le_of_ble_eq_true rfl, Nat.le_of_ble_eq_true rfl⟩ hl.1 rfl (Nat.le_of_ble_eq_true rfl) ⟨Nat.zero_le _, Nat.zero_le _⟩ dA_rowAt_72 ?_
    exact pu_iret hx hb hr hlk dA_rowAt_75 (by first | contradiction | ((try simp only [f_rowAt, if_neg hc1, if_neg hc2, if_neg hc3, if_neg hc4, if_neg hc5, if_pos hc6]) <;> rfl))
  by_cases hc7 : ca = 7
  · refine lv_tableIn (off := 59) (tgt := 60) hx hb dA_rowAt_1 (by rw [hc7]; decide) (by rw [hc7]; decide) (by rw [hc7]; rfl) (by decide) ?_
    refine lv_iload_n hx hb dA_rowAt_60 rfl (lv_at hl 1 rfl) ?_
    refine lv_bipush (v := 12) hx hb dA_rowAt_61 (by decide) ?_
    refine lv_idiv hx hb dA_rowAt_63 (by decide) ?_
    refine lv_iload_n hx hb dA_rowAt_64 rfl (lv_at hl 1 rfl) ?_
    refine lv_bipush (v := 12) hx hb dA_rowAt_65 (by decide) ?_
    refine jv_irem hx hb dA_rowAt_67 (by decide) ?_
    refine lv_iconst (v := 1) hx hb dA_rowAt_68 (by decide) ?_
    refine pu_S (cA_ranksAt l _ 1 (by decide)) rfl kA_A_ranksAt hS bl_ta hB rfl ⟨Nat.le_of_ble_eq_true rfl, Nat.le_of_ble_eq_true rfl⟩ hl.1 rfl (Nat.le_of_ble_eq_true rfl) ⟨Nat.zero_le _, Nat.zero_le _⟩ dA_rowAt_69 ?_
    refine pu_S (cA_rowBehind l _ _) rfl kA_A_rowBehind hS bl_T trivial rfl ⟨Nat.le_of_ble_eq_true rfl, Nat.le_of_ble_eq_true rfl⟩ hl.1 rfl (Nat.le_of_ble_eq_true rfl) ⟨Nat.zero_le _, Nat.zero_le _⟩ dA_rowAt_72 ?_
    exact pu_iret hx hb hr hlk dA_rowAt_75 (by first | contradiction | ((try simp only [f_rowAt, if_neg hc1, if_neg hc2, if_neg hc3, if_neg hc4, if_neg hc5, if_neg hc6, if_pos hc7]) <;> rfl))
  by_cases hc8 : ca = 8
  · refine lv_tableIn (off := 47) (tgt := 48) hx hb dA_rowAt_1 (by rw [hc8]; decide) (by rw [hc8]; decide) (by rw [hc8]; rfl) (by decide) ?_
    refine lv_lconst (v := 1) hx hb dA_rowAt_48 (by decide) ?_
    refine lv_iconst (v := 4) hx hb dA_rowAt_49 (by decide) ?_
    refine lv_iload_n hx hb dA_rowAt_50 rfl (lv_at hl 1 rfl) ?_
    refine lv_iconst (v := 3) hx hb dA_rowAt_51 (by decide) ?_
    refine lv_iadd hx hb dA_rowAt_52 ?_
    refine lv_imul hx hb dA_rowAt_53 ?_
    refine jv_lshl hx hb dA_rowAt_54 ?_
    refine lv_iconst (v := 0) hx hb dA_rowAt_55 (by decide) ?_
    refine pu_S (cA_written l _ _) rfl kA_A_written hS bl_T trivial rfl ⟨Nat.le_of_ble_eq_true rfl, Nat.le_of_ble_eq_true rfl⟩ hl.1 rfl (Nat.le_of_ble_eq_true rfl) ⟨Nat.zero_le _, Nat.zero_le _⟩ dA_rowAt_56 ?_
    exact pu_iret hx hb hr hlk dA_rowAt_59 (by first | contradiction | ((try simp only [f_rowAt, if_neg hc1, if_neg hc2, if_neg hc3, if_neg hc4, if_neg hc5, if_neg hc6, if_neg hc7, if_pos hc8]) <;> rfl))
  refine lv_tableOut (tgt := 115) hx hb dA_rowAt_1 (sw_o hc1 hc2 hc3 hc4 hc5 hc6 hc7 hc8) (by decide) ?_
  refine lv_iload_n hx hb dA_rowAt_115 rfl (lv_at hl 1 rfl) ?_
  refine pu_S (cA_ranksBesideStraights l _) rfl kA_A_ranksBesideStraights hS bl_ta hB rfl ⟨Nat.le_of_ble_eq_true rfl, Nat.le_of_ble_eq_true rfl⟩ hl.1 rfl (Nat.le_of_ble_eq_true rfl) ⟨Nat.zero_le _, Nat.zero_le _⟩ dA_rowAt_116 ?_
  refine lv_iconst (v := 0) hx hb dA_rowAt_119 (by decide) ?_
  refine pu_S (cA_written l _ _) rfl kA_A_written hS bl_T trivial rfl ⟨Nat.le_of_ble_eq_true rfl, Nat.le_of_ble_eq_true rfl⟩ hl.1 rfl (Nat.le_of_ble_eq_true rfl) ⟨Nat.zero_le _, Nat.zero_le _⟩ dA_rowAt_120 ?_
  exact pu_iret hx hb hr hlk dA_rowAt_123 (by first | contradiction | ((try simp only [f_rowAt, if_neg hc1, if_neg hc2, if_neg hc3, if_neg hc4, if_neg hc5, if_neg hc6, if_neg hc7, if_neg hc8]) <;> rfl))
set_option maxHeartbeats 4000000 in
set_option maxRecDepth 100000 in
theorem cA_isOutcome (l : Launch) (k : Int32) (b : Int32) (w : Int32)  : pu_M l yA_isOutcome bA_isOutcome 5 (some .boolean) 0 [.int k, .int b, .int w] (fun _ => True) (.int (f_outcome k b w)) := by
  refine Met.ofW (cc := bA_isOutcome) (maxL := 5) (ret := (some .boolean)) (by decide) rfl ?_
  intro p e s m args below meth c s₁ BB hml hv
  obtain ⟨rfl, hB⟩ := hv
  have hx := BB.exec
  have hb := BB.bytes
  have hr := BB.returns
  have hlk := BB.notSynchronized
  have hts := atoms_spec (ws := wd yA_isOutcome bA_isOutcome 5 (some .boolean)) BB.pre
  have hown : s.vm.findClass "HandTables" = some m.cls := findClass_of_methodNamed BB.named
  have hS : CallFix p m c bA_isOutcome 5 s _ (wd yA_isOutcome bA_isOutcome 5 (some .boolean)) "HandTables" := ⟨hx, hb, hml, hown, hts⟩
  have hl := lv_entry ([.int k, .int b, .int w]) (n := 5) (Nat.le_of_ble_eq_true rfl)
  rw [lg_entry_eq]
  generalize (lg_sl ([.int k, .int b, .int w]) ++ List.replicate (5 - (lg_sl ([.int k, .int b, .int w])).length) Slot.unset).toArray = ls at hl ⊢
  have hl : lv_has ls 5 [(0, .int k), (1, .int b), (2, .int w)] := hl
  refine lv_iload_n hx hb dA_isOutcome_0 rfl (lv_at hl 2 rfl) ?_
  refine lv_iconst (v := 1) hx hb dA_isOutcome_1 (by decide) ?_
  refine lv_iload_n hx hb dA_isOutcome_2 rfl (lv_at hl 0 rfl) ?_
  refine jv_ishl hx hb dA_isOutcome_3 ?_
  refine lv_iand hx hb dA_isOutcome_4 ?_
  refine lv_if_eq (tgt := 12) hx hb dA_isOutcome_5 (by decide) (fun hc1 => ?_) (fun hc1 => ?_)
  · refine lv_iconst (v := 0) hx hb dA_isOutcome_12 (by decide) ?_
    refine lv_topi (fun x2 ex2 => ?_)
    refine lv_istore_n (lv' := [(3, .int x2), (0, .int k), (1, .int b), (2, .int w)]) hx hb dA_isOutcome_13 rfl hl (by decide) rfl (fun ls hl => ?_)
    refine lv_iload_n hx hb dA_isOutcome_14 rfl (lv_at hl 3 rfl) ?_
    refine lv_iconst (v := 1) hx hb dA_isOutcome_15 (by decide) ?_
    refine lv_iload_n hx hb dA_isOutcome_16 rfl (lv_at hl 1 rfl) ?_
    refine jv_ishl hx hb dA_isOutcome_17 ?_
    refine lv_icmp_ne (tgt := 25) hx hb dA_isOutcome_18 (by decide) (fun hc3 => ?_) (fun hc3 => ?_)
    · refine lv_iconst (v := 0) hx hb dA_isOutcome_25 (by decide) ?_
      refine lv_topi (fun x4 ex4 => ?_)
      refine lv_istore (lv' := [(4, .int x4), (3, .int x2), (0, .int k), (1, .int b), (2, .int w)]) hx hb dA_isOutcome_26 hl (by decide) rfl (fun ls hl => ?_)
      refine lv_iload_n hx hb dA_isOutcome_28 rfl (lv_at hl 1 rfl) ?_
      refine lv_if_eq (tgt := 42) hx hb dA_isOutcome_29 (by decide) (fun hc5 => ?_) (fun hc5 => ?_)
      · refine lv_iconst (v := 0) hx hb dA_isOutcome_42 (by decide) ?_
        exact pu_zret hx hb hr hlk dA_isOutcome_43 (by decide) (by subst ex4 ex2; first | contradiction | ((try simp only [f_outcome, if_pos hc1, if_neg hc3, if_pos hc5]) <;> rfl))
      · refine lv_iload_n hx hb dA_isOutcome_32 rfl (lv_at hl 3 rfl) ?_
        refine lv_iload hx hb dA_isOutcome_33 (lv_at hl 0 rfl) ?_
        refine lv_icmp_eq (tgt := 42) hx hb dA_isOutcome_35 (by decide) (fun hc6 => ?_) (fun hc6 => ?_)
        · refine lv_iconst (v := 0) hx hb dA_isOutcome_42 (by decide) ?_
          exact pu_zret hx hb hr hlk dA_isOutcome_43 (by decide) (by subst ex4 ex2; first | contradiction | ((try simp only [f_outcome, if_pos hc1, if_neg hc3, if_neg hc5, if_pos hc6]) <;> rfl))
        · refine lv_iconst (v := 1) hx hb dA_isOutcome_38 (by decide) ?_
          refine lv_goto (tgt := 43) hx hb dA_isOutcome_39 (by decide) ?_
          exact pu_zret hx hb hr hlk dA_isOutcome_43 (by decide) (by subst ex4 ex2; first | contradiction | ((try simp only [f_outcome, if_pos hc1, if_neg hc3, if_neg hc5, if_neg hc6]) <;> rfl))
    · refine lv_iconst (v := 1) hx hb dA_isOutcome_21 (by decide) ?_
      refine lv_goto (tgt := 26) hx hb dA_isOutcome_22 (by decide) ?_
      refine lv_topi (fun x7 ex7 => ?_)
      refine lv_istore (lv' := [(4, .int x7), (3, .int x2), (0, .int k), (1, .int b), (2, .int w)]) hx hb dA_isOutcome_26 hl (by decide) rfl (fun ls hl => ?_)
      refine lv_iload_n hx hb dA_isOutcome_28 rfl (lv_at hl 1 rfl) ?_
      refine lv_if_eq (tgt := 42) hx hb dA_isOutcome_29 (by decide) (fun hc8 => ?_) (fun hc8 => ?_)
      · refine lv_iconst (v := 0) hx hb dA_isOutcome_42 (by decide) ?_
        exact pu_zret hx hb hr hlk dA_isOutcome_43 (by decide) (by subst ex7 ex2; first | contradiction | ((try simp only [f_outcome, if_pos hc1, if_pos hc3, if_pos hc8]) <;> rfl))
      · refine lv_iload_n hx hb dA_isOutcome_32 rfl (lv_at hl 3 rfl) ?_
        refine lv_iload hx hb dA_isOutcome_33 (lv_at hl 0 rfl) ?_
        refine lv_icmp_eq (tgt := 42) hx hb dA_isOutcome_35 (by decide) (fun hc9 => ?_) (fun hc9 => ?_)
        · refine lv_iconst (v := 0) hx hb dA_isOutcome_42 (by decide) ?_
          exact pu_zret hx hb hr hlk dA_isOutcome_43 (by decide) (by subst ex7 ex2; first | contradiction | ((try simp only [f_outcome, if_pos hc1, if_pos hc3, if_neg hc8, if_pos hc9]) <;> rfl))
        · refine lv_iconst (v := 1) hx hb dA_isOutcome_38 (by decide) ?_
          refine lv_goto (tgt := 43) hx hb dA_isOutcome_39 (by decide) ?_
          exact pu_zret hx hb hr hlk dA_isOutcome_43 (by decide) (by subst ex7 ex2; first | contradiction | ((try simp only [f_outcome, if_pos hc1, if_pos hc3, if_neg hc8, if_neg hc9]) <;> rfl))
  · refine lv_iconst (v := 1) hx hb dA_isOutcome_8 (by decide) ?_
    refine lv_goto (tgt := 13) hx hb dA_isOutcome_9 (by decide) ?_
    refine lv_topi (fun x10 ex10 => ?_)
    refine lv_istore_n (lv' := [(3, .int x10), (0, .int k), (1, .int b), (2, .int w)]) hx hb dA_isOutcome_13 rfl hl (by decide) rfl (fun ls hl => ?_)
    refine lv_iload_n hx hb dA_isOutcome_14 rfl (lv_at hl 3 rfl) ?_
    refine lv_iconst (v := 1) hx hb dA_isOutcome_15 (by decide) ?_
    refine lv_iload_n hx hb dA_isOutcome_16 rfl (lv_at hl 1 rfl) ?_
    refine jv_ishl hx hb dA_isOutcome_17 ?_
    refine lv_icmp_ne (tgt := 25) hx hb dA_isOutcome_18 (by decide) (fun hc11 => ?_) (fun hc11 => ?_)
    · refine lv_iconst (v := 0) hx hb dA_isOutcome_25 (by decide) ?_
      refine lv_topi (fun x12 ex12 => ?_)
      refine lv_istore (lv' := [(4, .int x12), (3, .int x10), (0, .int k), (1, .int b), (2, .int w)]) hx hb dA_isOutcome_26 hl (by decide) rfl (fun ls hl => ?_)
      refine lv_iload_n hx hb dA_isOutcome_28 rfl (lv_at hl 1 rfl) ?_
      refine lv_if_eq (tgt := 42) hx hb dA_isOutcome_29 (by decide) (fun hc13 => ?_) (fun hc13 => ?_)
      · refine lv_iconst (v := 0) hx hb dA_isOutcome_42 (by decide) ?_
        exact pu_zret hx hb hr hlk dA_isOutcome_43 (by decide) (by subst ex12 ex10; first | contradiction | ((try simp only [f_outcome, if_neg hc1, if_neg hc11, if_pos hc13]) <;> rfl))
      · refine lv_iload_n hx hb dA_isOutcome_32 rfl (lv_at hl 3 rfl) ?_
        refine lv_iload hx hb dA_isOutcome_33 (lv_at hl 0 rfl) ?_
        refine lv_icmp_eq (tgt := 42) hx hb dA_isOutcome_35 (by decide) (fun hc14 => ?_) (fun hc14 => ?_)
        · refine lv_iconst (v := 0) hx hb dA_isOutcome_42 (by decide) ?_
          exact pu_zret hx hb hr hlk dA_isOutcome_43 (by decide) (by subst ex12 ex10; first | contradiction | ((try simp only [f_outcome, if_neg hc1, if_neg hc11, if_neg hc13, if_pos hc14]) <;> rfl))
        · refine lv_iconst (v := 1) hx hb dA_isOutcome_38 (by decide) ?_
          refine lv_goto (tgt := 43) hx hb dA_isOutcome_39 (by decide) ?_
          exact pu_zret hx hb hr hlk dA_isOutcome_43 (by decide) (by subst ex12 ex10; first | contradiction | ((try simp only [f_outcome, if_neg hc1, if_neg hc11, if_neg hc13, if_neg hc14]) <;> rfl))
    · refine lv_iconst (v := 1) hx hb dA_isOutcome_21 (by decide) ?_
      refine lv_goto (tgt := 26) hx hb dA_isOutcome_22 (by decide) ?_
      refine lv_topi (fun x15 ex15 => ?_)
      refine lv_istore (lv' := [(4, .int x15), (3, .int x10), (0, .int k), (1, .int b), (2, .int w)]) hx hb dA_isOutcome_26 hl (by decide) rfl (fun ls hl => ?_)
      refine lv_iload_n hx hb dA_isOutcome_28 rfl (lv_at hl 1 rfl) ?_
      refine lv_if_eq (tgt := 42) hx hb dA_isOutcome_29 (by decide) (fun hc16 => ?_) (fun hc16 => ?_)
      · refine lv_iconst (v := 0) hx hb dA_isOutcome_42 (by decide) ?_
        exact pu_zret hx hb hr hlk dA_isOutcome_43 (by decide) (by subst ex15 ex10; first | contradiction | ((try simp only [f_outcome, if_neg hc1, if_pos hc11, if_pos hc16]) <;> rfl))
      · refine lv_iload_n hx hb dA_isOutcome_32 rfl (lv_at hl 3 rfl) ?_
        refine lv_iload hx hb dA_isOutcome_33 (lv_at hl 0 rfl) ?_
        refine lv_icmp_eq (tgt := 42) hx hb dA_isOutcome_35 (by decide) (fun hc17 => ?_) (fun hc17 => ?_)
        · refine lv_iconst (v := 0) hx hb dA_isOutcome_42 (by decide) ?_
          exact pu_zret hx hb hr hlk dA_isOutcome_43 (by decide) (by subst ex15 ex10; first | contradiction | ((try simp only [f_outcome, if_neg hc1, if_pos hc11, if_neg hc16, if_pos hc17]) <;> rfl))
        · refine lv_iconst (v := 1) hx hb dA_isOutcome_38 (by decide) ?_
          refine lv_goto (tgt := 43) hx hb dA_isOutcome_39 (by decide) ?_
          exact pu_zret hx hb hr hlk dA_isOutcome_43 (by decide) (by subst ex15 ex10; first | contradiction | ((try simp only [f_outcome, if_neg hc1, if_pos hc11, if_neg hc16, if_neg hc17]) <;> rfl))
end
section
/-! Methods that leave the heap as it is, or throw: contracts and calls; instance methods; what a throw needs. -/
section TI
variable {p : Program} {l : Launch} {e : Env} {R : Room} {s : State} {m : MethodId} {args : Array Value} {below : List Frame} {meth : Method} {c : Code} {H : Heap} {locs : List Loc} {cells slots : Nat} {Q : State → Prop}
/-- the heap is the same: so are the counts -/
theorem st_tight {T T' : State} {locs' : List Loc} {cells' slots' : Nat} (X : Stand p l e R s m args below meth c T locs cells slots) (X' : Stand p l e R s m args below meth c T' locs' cells' slots') (h : T'.heap = T.heap) : Stand p l e R s m args below meth c T' locs cells slots := by
  obtain ⟨f1, f2, f3, f4, f5, f6⟩ := X.same
  obtain ⟨g1, g2, g3, g4, g5, g6⟩ := X'.same
  have e1 : (T'.setVm s.vm).heap = (T.setVm s.vm).heap := h
  exact { X' with same := ⟨g1, g2, by rw [e1]; exact f3, g4, by rw [e1]; exact f5, fun a c0 hc => by rw [e1]; exact f6 a c0 hc⟩ }
end TI
/-- thrown E, or returned v; either way nothing that was there has changed -/
def px_Q (res : String ⊕ Option Value) : Array Value → State → Outcome → State → Prop := fun _ st o t => ∃ v, res = .inr v ∧ o = .returned v ∧ t.heap = st.heap
def px_X (res : String ⊕ Option Value) : String → State → State → Prop := fun E st t => res = .inl E ∧ st.heap.size ≤ t.heap.size ∧ ∀ q : Nat, q < st.heap.size → t.heap[q]? = st.heap[q]?
def px_M (l : Launch) (y : MethodName) (b : ByteArray) (n : Nat) (ret : Option FieldType) (d : Nat) (av : List Value) (B : State → Prop) (res : String ⊕ Option Value) : Prop :=
  vx_Met l y (wd y b n ret) (rmD d 1 6) (va_Pc av B) (px_Q res) (px_X res) 1 6 (fun _ => False)
/-- the words of a call of an instance method of one's own class, or of the law -/
def cv_W (own : String) (index : Nat) (C : String) (y : MethodName) (b : ByteArray) (n : Nat) (ret : Option FieldType) (k : Nat) : Prop :=
  Cond.methodLink own index y ∈ gw ∧ Cond.instanceMethod y ∈ gw ∧ Cond.selects C y y ∈ gw ∧ Cond.initialized C ∈ gw ∧ Cond.code y b n ret ∈ gw ∧ (y.cls = C ∧ y.cls ≠ "java/lang/invoke/MethodHandle" ∧ y.cls ≠ "java/lang/invoke/VarHandle" ∧ (parseMethodDescriptor y.desc).map (fun d => d.parameters.length) = some k)
theorem cs_good {own : String} {index : Nat} {y y0 : MethodName} {b b0 : ByteArray} {n n0 k : Nat} {ret ret0 : Option FieldType} (hc : cs_W own index y b n ret k) : GoodIn (wd y0 b0 n0 ret0) (va_wsS own index y (wd y b n ret)) := by
  obtain ⟨w1, w2, w3, w4, -⟩ := hc
  intro w hw
  unfold va_wsS at hw
  rcases List.mem_append.mp hw with h | h
  · have hg : w ∈ gw := by
      rcases List.mem_cons.mp h with e | h
      · subst e; exact w1
      rcases List.mem_cons.mp h with e | h
      · subst e; exact w2
      rcases List.mem_cons.mp h with e | h
      · subst e; exact w3
      · cases h
    exact ⟨wd_in hg, gw_good hg⟩
  · exact wd_good w4 w h
theorem cv_good {own C : String} {index : Nat} {y y0 : MethodName} {b b0 : ByteArray} {n n0 k : Nat} {ret ret0 : Option FieldType} (hc : cv_W own index C y b n ret k) : GoodIn (wd y0 b0 n0 ret0) (wsV own index C y (wd y b n ret)) := by
  obtain ⟨w1, w2, w3, w4, w5, -⟩ := hc
  intro w hw
  unfold wsV at hw
  rcases List.mem_append.mp hw with h | h
  · have hg : w ∈ gw := by
      rcases List.mem_cons.mp h with e | h
      · subst e; exact w1
      rcases List.mem_cons.mp h with e | h
      · subst e; exact w2
      rcases List.mem_cons.mp h with e | h
      · subst e; exact w3
      rcases List.mem_cons.mp h with e | h
      · subst e; exact w4
      · cases h
    exact ⟨wd_in hg, gw_good hg⟩
  · exact wd_good w5 w h
section PX
variable {p : Program} {l : Launch} {e : Env} {R : Room} {s : State} {m : MethodId} {args : Array Value} {below : List Frame} {meth : Method} {c : Code} {H : Heap} {locs : List Loc} {cells slots : Nat} {Q : State → Prop}
variable {cc b : ByteArray} {pc nL n d index k : Nat} {ls : Array Slot} {rest st0 : List Value} {own C : String} {y y0 : MethodName} {b0 : ByteArray} {n0 : Nat} {ret ret0 : Option FieldType} {av : List Value} {B : State → Prop} {res res0 : String ⊕ Option Value} {r : Value} {o : Nat}
/-- an instance method's pure call -/
theorem pu_V (hM : pu_M l y b n ret d (.ref o :: av) B r) (he : st0 = av.reverse ++ .ref o :: rest) (hc : cv_W own index C y b n ret k) (S : CallFix p m c cc nL s args (wd y0 b0 n0 ret0) own) (hBl : bl_F B) (hB : B s) (hH : H = s.heap) (hrc : ∃ cell : Cell, H[o]? = some cell ∧ cell.vm.isStatics = false ∧ s.vm.findClass C = some cell.cls)
    (hR : (d + 1 ≤ R.frames ∧ 8 + (n + 11) + 70 * d ≤ R.locals)) (hl : ls.size = nL) (hk : av.length = k) (hst : (rest.map fun v => v.category).sum ≤ 8) (hf : cells ≤ R.cells ∧ slots ≤ R.slots) (hdg : decode cc pc = .ok (.invokevirtual index, 3))
    (kk : W p l e R s m args below meth c H locs cells slots Q (F0 m (pc + 3) ls (r :: rest))) : W p l e R s m args below meth c H locs cells slots Q (F0 m pc ls st0) := by
  subst he
  exact pu_call (va_runV (C := C) (b := o) (As := av) (rest := rest) S hM (cwV k S.2.2.2.2 (cv_good hc) rfl rfl rfl hc.2.2.2.2.2 hR) ⟨bl_blind hBl, hrc, fun U hU hW => ⟨rfl, hBl s U hW (by rw [hU, hH]) hB⟩⟩ rfl hk hl rfl (by show 2 * 0 + _ ≤ 8; omega) hdg hf) kk
theorem px_call {a : Array Value} (hr : vx_Run p l e R s m args below meth c H locs cells slots 1 6 (F0 m pc ls st0) rest (px_Q res a) (px_X res) (fun _ => False))
    (kr : ∀ v, res = .inr v → W p l e R s m args below meth c H locs cells slots Q (F0 m (pc + 3) ls (v.toList ++ rest)))
    (kt : ∀ (E : String) (q : Addr) (ce : Cell) (H1 : Heap), res = .inl E → H1[q]? = some ce → ce.vm = .none → s.vm.findClass E = some ce.cls → H.size ≤ H1.size → (∀ z : Nat, z < H.size → H1[z]? = H[z]?) → vx_W p l e R s m args below meth c H1 locs (cells + 1) (slots + 6) Q (F0 m pc ls rest) q) :
    W p l e R s m args below meth c H locs cells slots Q (F0 m pc ls st0) := by
  intro T hT X
  rcases hr T hT X with ⟨v, st₀, t, T', L, h0, X', hL, e1, e2, ⟨v', hres, hv, hh⟩, st⟩ | ⟨q, st₀, t, T', L, E, ce, h0, X', hL, e1, e2, ⟨hE, hz, hk⟩, hce, hcv, hcl, st⟩
  · cases hv
    obtain ⟨t2, a1, b1⟩ := kr v hres T' (by rw [e1, hh, h0]) (st_tight X X' (by rw [e1, hh, h0, hT]))
    exact ⟨t2, st t2 a1, b1⟩
  · rw [h0] at hz hk
    obtain ⟨t2, a1, b1⟩ := kt E q ce t.heap hE hce hcv hcl hz hk T' e1 (Stand.forget X' (fun z h => (hL z h).elim))
    exact ⟨t2, st.trans a1, b1⟩
/-- what is thrown goes on to the caller -/
theorem px_prop {q : Addr} {E : String} {ce : Cell} {H1 : Heap} (hout : ∀ x ∈ c.exceptionTable.toList, False) (hlk : meth.locks = false) (hE : res0 = .inl E) (h1 : H1[q]? = some ce) (h2 : ce.vm = .none) (h3 : s.vm.findClass E = some ce.cls) (h4 : s.heap.size ≤ H1.size) (h5 : ∀ z : Nat, z < s.heap.size → H1[z]? = s.heap[z]?) :
    vx_W p l e R s m args below meth c H1 [] (0 + 1) (0 + 6) (vx_MQ below (px_Q res0) (px_X res0) args s 1 6 (fun _ => False)) (F0 m pc ls rest) q :=
  vx_out (fun x hx => (hout x hx).elim) hlk h1 h2 h3 (fun t ht _ => ⟨hE, by rw [ht]; exact h4, fun z hz => by rw [ht]; exact h5 z hz⟩) (fun z hz => nomatch hz) (Nat.le_refl _) (Nat.le_refl _)
/-- a static call that may throw, in a method that may throw -/
theorem px_S (hM : px_M l y b n ret d av B res) (he : st0 = av.reverse ++ rest) (hc : cs_W own index y b n ret k) (S : CallFix p m c cc nL s args (wd y0 b0 n0 ret0) own) (hBl : bl_F B) (hB : B s)
    (hR : (d + 1 ≤ R.frames ∧ 8 + (n + 11) + 70 * d ≤ R.locals)) (hl : ls.size = nL) (hk : av.length = k) (hst : (rest.map fun v => v.category).sum ≤ 8) (hf : 0 + 1 ≤ R.cells ∧ 0 + 6 ≤ R.slots) (hdg : decode cc pc = .ok (.invokestatic index, 3)) (hout : ∀ x ∈ c.exceptionTable.toList, False) (hlk : meth.locks = false)
    (hE : ∀ E, res = .inl E → res0 = .inl E)
    (kr : ∀ v, res = .inr v → W p l e R s m args below meth c s.heap [] 0 0 (vx_MQ below (px_Q res0) (px_X res0) args s 1 6 (fun _ => False)) (F0 m (pc + 3) ls (v.toList ++ rest))) :
    W p l e R s m args below meth c s.heap [] 0 0 (vx_MQ below (px_Q res0) (px_X res0) args s 1 6 (fun _ => False)) (F0 m pc ls st0) := by
  subst he
  exact px_call (vx_runS (As := av) (rest := rest) S hM (va_cwS k S.2.2.2.2 (cs_good hc) rfl rfl rfl hc.2.2.2.2 hR) ⟨bl_blind hBl, fun U hU hW => ⟨rfl, hBl s U hW hU hB⟩⟩ rfl hk hl rfl (by show 2 * 0 + _ ≤ 8; omega) hdg hf) kr
    (fun E q ce H1 h0 h1 h2 h3 h4 h5 => px_prop hout hlk (hE E h0) h1 h2 h3 h4 h5)
theorem px_V (hM : px_M l y b n ret d (.ref o :: av) B res) (he : st0 = av.reverse ++ .ref o :: rest) (hc : cv_W own index C y b n ret k) (S : CallFix p m c cc nL s args (wd y0 b0 n0 ret0) own) (hBl : bl_F B) (hB : B s) (hrc : ∃ cell : Cell, s.heap[o]? = some cell ∧ cell.vm.isStatics = false ∧ s.vm.findClass C = some cell.cls)
    (hR : (d + 1 ≤ R.frames ∧ 8 + (n + 11) + 70 * d ≤ R.locals)) (hl : ls.size = nL) (hk : av.length = k) (hst : (rest.map fun v => v.category).sum ≤ 8) (hf : 0 + 1 ≤ R.cells ∧ 0 + 6 ≤ R.slots) (hdg : decode cc pc = .ok (.invokevirtual index, 3)) (hout : ∀ x ∈ c.exceptionTable.toList, False) (hlk : meth.locks = false)
    (hE : ∀ E, res = .inl E → res0 = .inl E)
    (kr : ∀ v, res = .inr v → W p l e R s m args below meth c s.heap [] 0 0 (vx_MQ below (px_Q res0) (px_X res0) args s 1 6 (fun _ => False)) (F0 m (pc + 3) ls (v.toList ++ rest))) :
    W p l e R s m args below meth c s.heap [] 0 0 (vx_MQ below (px_Q res0) (px_X res0) args s 1 6 (fun _ => False)) (F0 m pc ls st0) := by
  subst he
  exact px_call (vx_runV (C := C) (b := o) (As := av) (rest := rest) S hM (cwV k S.2.2.2.2 (cv_good hc) rfl rfl rfl hc.2.2.2.2.2 hR) ⟨bl_blind hBl, hrc, fun U hU hW => ⟨rfl, hBl s U hW hU hB⟩⟩ rfl hk hl rfl (by show 2 * 0 + _ ≤ 8; omega) hdg hf) kr
    (fun E q ce H1 h0 h1 h2 h3 h4 h5 => px_prop hout hlk (hE E h0) h1 h2 h3 h4 h5)
theorem px_iret {v : Int32} (hexec : p.tables.exec = Jvm.exec) (hb : c.code = cc) (hr : meth.sig.returnType = some .int) (hlocks : meth.locks = false) (hdg : decode cc pc = .ok (.ireturn, 1)) (hv : res0 = .inr (some (.int v))) :
    W p l e R s m args below meth c s.heap [] 0 0 (vx_MQ below (px_Q res0) (px_X res0) args s 1 6 (fun _ => False)) (F0 m pc ls [.int v]) :=
  W.widen (k := 1) (n := 6) (by omega) (by omega) (vx_ret (W.iret hexec hb hr (fun t ht _ => ⟨_, hv, rfl, ht⟩) (fun q h => nomatch h) hdg hlocks))
theorem px_lret {v : Int64} (hexec : p.tables.exec = Jvm.exec) (hb : c.code = cc) (hr : meth.sig.returnType = some .long) (hlocks : meth.locks = false) (hdg : decode cc pc = .ok (.lreturn, 1)) (hv : res0 = .inr (some (.long v))) :
    W p l e R s m args below meth c s.heap [] 0 0 (vx_MQ below (px_Q res0) (px_X res0) args s 1 6 (fun _ => False)) (F0 m pc ls [.long v]) :=
  W.widen (k := 1) (n := 6) (by omega) (by omega) (vx_ret (W.lret hexec hb hr (fun t ht _ => ⟨_, hv, rfl, ht⟩) (fun q h => nomatch h) hdg hlocks))
theorem px_vret (hexec : p.tables.exec = Jvm.exec) (hb : c.code = cc) (hr : meth.sig.returnType = none) (hlocks : meth.locks = false) (hdg : decode cc pc = .ok (.return_, 1)) (hv : res0 = .inr none) :
    W p l e R s m args below meth c s.heap [] 0 0 (vx_MQ below (px_Q res0) (px_X res0) args s 1 6 (fun _ => False)) (F0 m pc ls []) :=
  W.widen (k := 1) (n := 6) (by omega) (by omega) (vx_ret (W.vret hexec hb hr (fun t ht _ => ⟨_, hv, rfl, ht⟩) (fun q h => nomatch h) hdg hlocks))
end PX
/-! what a throw needs of the state -/
def ex_n : List String := ["java/lang/RuntimeException", "java/lang/Exception"]
def ex_IA : String := "java/lang/IllegalArgumentException"
def ex_IO : String := "java/lang/IndexOutOfBoundsException"
def ex_IS : String := "java/lang/IllegalStateException"
def ex_w : List Cond := [.declares ⟨"java/lang/RuntimeException", "<init>", "(Ljava/lang/String;)V"⟩, .declares ⟨"java/lang/Exception", "<init>", "(Ljava/lang/String;)V"⟩, .declares ⟨"java/lang/Throwable", "<init>", "(Ljava/lang/String;)V"⟩, .castable ex_IA ex_IA, .castable ex_IO ex_IO, .castable ex_IS ex_IS]
def ex_s : List (Nat × String) := [(123, "not five to seven cards"), (125, "no such value"), (52, "no such category"), (129, "no such seat"), (132, "no card"), (134, "the seat is empty"), (136, "the board has less than three cards"), (88, "all seats are empty"), (99, "neither wins nor shares"), (105, "the board is full"), (107, "the pot is below 0"), (109, "the board is not full")]
def ex_F (U : State) : Prop := (∀ w ∈ ex_w, va_Nw w U) ∧ vx_Zq Bundle.tN "UNASSIGNED_STACK" Bundle.steD ta_A U U.heap ∧ vx_Zq Bundle.tN "SUPPRESSED_SENTINEL" Bundle.listD ta_A U U.heap ∧ ∀ q ∈ ex_s, ∃ sa, vk_R "HandTables" q.1 q.2 sa U
theorem bl_ex : bl_F ex_F := by
  intro u U hW hh h
  obtain ⟨h1, h2, h3, h4⟩ := h
  refine ⟨fun w hw => ?_, by rw [hh]; exact vx_Zq.moved hW.alike h2, by rw [hh]; exact vx_Zq.moved hW.alike h3, fun q hq => ?_⟩
  · have h0 := h1 w hw
    simp only [ex_w, List.mem_cons, List.not_mem_nil, or_false] at hw
    rcases hw with rfl | rfl | rfl | rfl | rfl | rfl
    · exact va_Nw.warmD hW h0
    · exact va_Nw.warmD hW h0
    · exact va_Nw.warmD hW h0
    · exact va_Nw.warmC hW h0
    · exact va_Nw.warmC hW h0
    · exact va_Nw.warmC hW h0
  · obtain ⟨sa, hs⟩ := h4 q hq
    exact ⟨sa, vk_R.warm hW hs⟩
theorem at_IA : ∀ w ∈ (vx_atS "HandTables" 54 ex_IA ex_n).filter goodWord, w ∈ lw_tbl := by decide +kernel
theorem at_IO : ∀ w ∈ (vx_atS "HandTables" 131 ex_IO ex_n).filter goodWord, w ∈ lw_tbl := by decide +kernel
theorem at_IS : ∀ w ∈ (vx_atS "HandTables" 90 ex_IS ex_n).filter goodWord, w ∈ lw_tbl := by decide +kernel
theorem an_IA : ∀ w ∈ (vx_atS "HandTables" 54 ex_IA ex_n).filter (fun w => !goodWord w), w ∈ ex_w := by decide +kernel
theorem an_IO : ∀ w ∈ (vx_atS "HandTables" 131 ex_IO ex_n).filter (fun w => !goodWord w), w ∈ ex_w := by decide +kernel
theorem an_IS : ∀ w ∈ (vx_atS "HandTables" 90 ex_IS ex_n).filter (fun w => !goodWord w), w ∈ ex_w := by decide +kernel
theorem ao_w : ∀ w ∈ ex_w, w.onTables = true := by decide +kernel
theorem at_all {args : Array Value} {s : State} {L : List Cond} {y : MethodName} {b : ByteArray} {n : Nat} {r : Option FieldType} (hts : ∀ w ∈ wd y b n r, w.before args s = true) (hx : ex_F s) (h1 : ∀ w ∈ L.filter goodWord, w ∈ lw_tbl) (h2 : ∀ w ∈ L.filter (fun w => !goodWord w), w ∈ ex_w) : ∀ w ∈ L, w.before args s = true :=
  vx_hat (B := ex_w) (fun w hw => hts w (wd_in (List.mem_filter.mpr ⟨h1 w hw, (List.mem_filter.mp hw).2⟩))) h2 (fun w hw => va_Nw.use (ao_w w hw) (hx.1 w hw))
theorem ag_IA : ∀ w ∈ Cond.classLink "HandTables" 50 ex_IA :: Cond.initialized ex_IA :: vx_atS "HandTables" 54 ex_IA ex_n, vx_ot w = true := by decide +kernel
theorem ag_IO : ∀ w ∈ Cond.classLink "HandTables" 127 ex_IO :: Cond.initialized ex_IO :: vx_atS "HandTables" 131 ex_IO ex_n, vx_ot w = true := by decide +kernel
theorem ag_IS : ∀ w ∈ Cond.classLink "HandTables" 86 ex_IS :: Cond.initialized ex_IS :: vx_atS "HandTables" 90 ex_IS ex_n, vx_ot w = true := by decide +kernel
section PT
variable {p : Program} {l : Launch} {e : Env} {R : Room} {s : State} {m : MethodId} {args : Array Value} {below : List Frame} {meth : Method} {c : Code} {cc : ByteArray} {pc : Nat} {ls : Array Slot} {rest : List Value} {y : MethodName} {b : ByteArray} {n : Nat} {ret : Option FieldType} {res0 : String ⊕ Option Value}
/-- 'throw new E(text)' in a method that has changed nothing -/
theorem px_throw {cls text : String} {ik is ic : Nat} (hexec : p.tables.exec = Jvm.exec) (hb : c.code = cc) (hl : l.stackTraces = false) (hown : s.vm.findClass "HandTables" = some m.cls) (hts : ∀ w ∈ wd y b n ret, w.before args s = true) (hx : ex_F s)
    (hfit : Bundle.fit cls = true) (hk : Cond.classLink "HandTables" ik cls ∈ gw) (hi : Cond.initialized cls ∈ gw) (hs : (is, text) ∈ ex_s) (h1 : ∀ w ∈ (vx_atS "HandTables" ic cls ex_n).filter goodWord, w ∈ lw_tbl) (h2 : ∀ w ∈ (vx_atS "HandTables" ic cls ex_n).filter (fun w => !goodWord w), w ∈ ex_w)
    (hg : ∀ w ∈ Cond.classLink "HandTables" ik cls :: Cond.initialized cls :: vx_atS "HandTables" ic cls ex_n, vx_ot w = true) (hsize : ls.size = c.maxLocals)
    (d0 : decode cc pc = .ok (.new ik, 3)) (d3 : decode cc (pc + 3) = .ok (.dup, 1)) (d4 : decode cc (pc + 4) = .ok (.ldc is, 2)) (d6 : decode cc (pc + 6) = .ok (.invokespecial ic, 3)) (d9 : decode cc (pc + 9) = .ok (.athrow, 1))
    (hout : ∀ x ∈ c.exceptionTable.toList, False) (hRf : 5 < R.frames) (hRl : (rest.map fun v => v.category).sum + 82 ≤ R.locals) (hRc : 0 + 1 ≤ R.cells) (hRs : 0 + 6 ≤ R.slots) (hlk : meth.locks = false) (hE : res0 = .inl cls) :
    W p l e R s m args below meth c s.heap [] 0 0 (vx_MQ below (px_Q res0) (px_X res0) args s 1 6 (fun _ => False)) (F0 m pc ls rest) := by
  obtain ⟨sa, hsa⟩ := hx.2.2.2 _ hs
  exact vx_throwS (names := ex_n) hexec hb hl hown hfit (by decide +kernel) (hts _ (wd_in hk)) (hts _ (wd_in hi)) hsa (at_all hts hx h1 h2) hg hx.2.1 hx.2.2.1 va_S.rf hsize d0 d3 d4 d6 d9 (fun x hx => (hout x hx).elim) hRf hRl hRc hRs hlk
    (fun t _ h1 h2 => ⟨hE, h1, h2⟩) (fun z hz => nomatch hz) (Nat.le_refl _) (Nat.le_refl _)
end PT
end
section
/-! the class as an object: its cells; what its small methods answer -/
def T_A : u_T := fun k => match k with
  | 0 => ("HandTables", "table", "[J", true)
  | 1 => ("HandTables", "deck", "[I", true)
  | _ => ("HandTables", "drawn", "I", false)
def T_M : u_T := fun k => match k with
  | 0 => ("HandTablesModel", "thrown", "I", false)
  | 1 => ("HandTablesModel", "keys", "[I", true)
  | 2 => ("HandTablesModel", "keyCount", "I", false)
  | 3 => ("HandTablesModel", "ranks", "[I", true)
  | 4 => ("HandTablesModel", "often", "[I", true)
  | 5 => ("HandTablesModel", "hand", "[I", true)
  | 6 => ("HandTablesModel", "handSize", "I", false)
  | 7 => ("HandTablesModel", "seats", "[I", true)
  | 8 => ("HandTablesModel", "board", "[I", true)
  | 9 => ("HandTablesModel", "boardSize", "I", false)
  | 10 => ("HandTablesModel", "deck", "[I", true)
  | 11 => ("HandTablesModel", "deckPlace", "I", false)
  | 12 => ("HandTablesModel", "counted", "Z", false)
  | 13 => ("HandTablesModel", "boards", "I", false)
  | 14 => ("HandTablesModel", "wins", "[I", true)
  | 15 => ("HandTablesModel", "shares", "[I", true)
  | 16 => ("HandTablesModel", "left", "[I", true)
  | 17 => ("HandTablesModel", "leftCount", "I", false)
  | 18 => ("HandTablesModel", "most", "I", false)
  | _ => ("HandTablesModel", "aheads", "I", false)
abbrev cl_X : List vw_C := [("HandTables", T_A, 3), ("HandTablesModel", T_M, 20)]
theorem u_inA : ∀ w ∈ u_ws "HandTables" T_A 3, w ∈ gw := by decide +kernel
theorem u_inM : ∀ w ∈ u_ws "HandTablesModel" T_M 20, w ∈ gw := by decide +kernel
/-- where the object lies: the tables' numbers, the classes of long and int arrays, the object, its table, its deck -/
abbrev xo_E : Type := va_G × ClassId × ClassId × Nat × Nat × Nat
abbrev xo_a (g : xo_E) : Nat := g.2.2.2.1
abbrev xo_t (g : xo_E) : Nat := g.2.2.2.2.1
abbrev xo_d (g : xo_E) : Nat := g.2.2.2.2.2
abbrev xo_W (g : xo_E) (T : Nat → Int64) (K : Nat → Int32) (n : Int32) : va_W := [(xo_a g, .inr (0, [.ref (xo_t g), .ref (xo_d g), .int n])), (xo_t g, .inl (g.2.1, 7, .inr (.inl T))), (xo_d g, .inl (g.2.2.1, 52, .inl K))]
def xo_F (g : xo_E) (T : Nat → Int64) (K : Nat → Int32) (n : Int32) (U : State) : Prop := ta_F U ∧ ex_F U ∧ va_P g.1 cl_X (xo_W g T K n) U.heap ∧ va_K g.1 cl_X [(g.2.1, .long), (g.2.2.1, .int)] U
theorem bl_xo {g : xo_E} {T : Nat → Int64} {K : Nat → Int32} {n : Int32} : bl_F (xo_F g T K n) := by
  intro u U hW hh h
  obtain ⟨h1, h2, h3, h4⟩ := h
  exact ⟨bl_ta u U hW hh h1, bl_ex u U hW hh h2, by rw [hh]; exact h3, va_K.moved hW.alike h4⟩
theorem xo_rc {g : xo_E} {T : Nat → Int64} {K : Nat → Int32} {n : Int32} {s : State} (h : xo_F g T K n s) : ∃ cell : Cell, s.heap[xo_a g]? = some cell ∧ cell.vm.isStatics = false ∧ s.vm.findClass "HandTables" = some cell.cls :=
  va_recv (q0 := 0) (ci := 0) (q := ("HandTables", T_A, 3)) h.2.2.2 h.2.2.1 rfl rfl
theorem ri_then {P : Prop} [Decidable P] {X E : String} {w : Option Value} (h : (if P then (Sum.inl X : String ⊕ Option Value) else .inr w) = .inl E) : P ∧ X = E := by
  split at h
  · exact ⟨by assumption, Sum.inl.inj h⟩
  · cases h
theorem ri_else {P : Prop} [Decidable P] {X : String} {w v : Option Value} (h : (if P then (Sum.inl X : String ⊕ Option Value) else .inr w) = .inr v) : ¬ P ∧ w = v := by
  split at h
  · cases h
  · exact ⟨by assumption, Sum.inr.inj h⟩
section PZ2
variable {p : Program} {l : Launch} {e : Env} {R : Room} {s : State} {m : MethodId} {args : Array Value} {below : List Frame} {meth : Method} {c : Code} {cc : ByteArray} {pc : Nat} {ls : Array Slot} {res0 : String ⊕ Option Value}
theorem px_zret {v : Int32} (hexec : p.tables.exec = Jvm.exec) (hb : c.code = cc) (hr : meth.sig.returnType = some .boolean) (hlocks : meth.locks = false) (hdg : decode cc pc = .ok (.ireturn, 1)) (h01 : v = 0 ∨ v = 1) (hv : res0 = .inr (some (.int v))) :
    W p l e R s m args below meth c s.heap [] 0 0 (vx_MQ below (px_Q res0) (px_X res0) args s 1 6 (fun _ => False)) (F0 m pc ls [.int v]) := by
  refine W.widen (k := 1) (n := 6) (by omega) (by omega) (vx_ret (W.zret hexec hb hr ?_ (fun t ht _ => ⟨_, hv, rfl, ht⟩) (fun q h => nomatch h) hdg hlocks))
  rcases h01 with h | h <;> subst h <;> rfl
end PZ2
abbrev q_hand (x : Int64) : Prop := f_bc x < 5 ∨ 7 < f_bc x ∨ ¬ x &&& -4503599627370496 = 0
abbrev q_val (v : Int32) : Prop := v < 0 ∨ ¬ v < 7462
abbrev q_seat (k : Int32) : Prop := k < 0 ∨ ¬ k < 6
abbrev q_card (k : Int32) : Prop := k < 0 ∨ ¬ k < 52
def g_bs (T : Nat → Int64) : Int32 := f_bc (T (6 : Int32).toNatClampNeg)
def st_lp (T : Nat → Int64) : Nat → Int64 → Int64
  | 0, a => a
  | n + 1, a => st_lp T n (a ||| T (nI (7 - (n + 1))).toNatClampNeg)
def g_stand (T : Nat → Int64) : Int64 := st_lp T 7 0
def g_free (T : Nat → Int64) : Int64 := 4503599627370495 &&& (g_stand T ^^^ -1)
set_option maxRecDepth 20000 in
theorem kA_A_sortDeck : cv_W "HandTables" 17 "HandTables" yA_sortDeck bA_sortDeck 2 none 0 := ⟨(gw_mem 45 rfl rfl), (gw_mem 47 rfl rfl), (gw_mem 0 rfl rfl), (gw_mem 27 rfl rfl), (gw_mem 48 rfl rfl), by decide +kernel⟩
set_option maxRecDepth 20000 in
theorem kA_A_standing : cv_W "HandTables" 63 "HandTables" yA_standing bA_standing 4 (some .long) 0 := ⟨(gw_mem 300 rfl rfl), (gw_mem 302 rfl rfl), (gw_mem 3 rfl rfl), (gw_mem 27 rfl rfl), (gw_mem 303 rfl rfl), by decide +kernel⟩
set_option maxRecDepth 20000 in
theorem kA_A_missing : cv_W "HandTables" 69 "HandTables" yA_missing bA_missing 1 (some .int) 0 := ⟨(gw_mem 318 rfl rfl), (gw_mem 320 rfl rfl), (gw_mem 4 rfl rfl), (gw_mem 27 rfl rfl), (gw_mem 321 rfl rfl), by decide +kernel⟩
set_option maxRecDepth 20000 in
theorem kA_A_boardSize : cv_W "HandTables" 73 "HandTables" yA_boardSize bA_boardSize 1 (some .int) 0 := ⟨(gw_mem 65 rfl rfl), (gw_mem 67 rfl rfl), (gw_mem 1 rfl rfl), (gw_mem 27 rfl rfl), (gw_mem 68 rfl rfl), by decide +kernel⟩
set_option maxRecDepth 20000 in
theorem kA_A_requireTaken : cv_W "HandTables" 76 "HandTables" yA_requireTaken bA_requireTaken 2 none 1 := ⟨(gw_mem 337 rfl rfl), (gw_mem 339 rfl rfl), (gw_mem 5 rfl rfl), (gw_mem 27 rfl rfl), (gw_mem 340 rfl rfl), by decide +kernel⟩
set_option maxRecDepth 20000 in
theorem kA_A_requireThreeOnBoard : cv_W "HandTables" 79 "HandTables" yA_requireThreeOnBoard bA_requireThreeOnBoard 1 none 0 := ⟨(gw_mem 357 rfl rfl), (gw_mem 359 rfl rfl), (gw_mem 6 rfl rfl), (gw_mem 27 rfl rfl), (gw_mem 360 rfl rfl), by decide +kernel⟩
set_option maxRecDepth 20000 in
theorem kA_A_free : cv_W "HandTables" 91 "HandTables" yA_free bA_free 1 (some .long) 0 := ⟨(gw_mem 380 rfl rfl), (gw_mem 382 rfl rfl), (gw_mem 7 rfl rfl), (gw_mem 27 rfl rfl), (gw_mem 383 rfl rfl), by decide +kernel⟩
set_option maxHeartbeats 4000000 in
set_option maxRecDepth 100000 in
theorem cA_requireHand (l : Launch) (x : Int64) (hst : l.stackTraces = false)  : px_M l yA_requireHand bA_requireHand 3 none 6 [.long x] ex_F (if q_hand x then .inl ex_IA else .inr none) := by
  refine vx_ofW (cc := bA_requireHand) (maxL := 3) (ret := none) (by decide) rfl ?_
  intro p e s m args below meth c s₁ BB hml hout hv
  obtain ⟨rfl, hB⟩ := hv
  have hx := BB.exec
  have hb := BB.bytes
  have hr := BB.returns
  have hlk := BB.notSynchronized
  have hts := atoms_spec (ws := wd yA_requireHand bA_requireHand 3 none) BB.pre
  have hown : s.vm.findClass "HandTables" = some m.cls := findClass_of_methodNamed BB.named
  have hS : CallFix p m c bA_requireHand 3 s _ (wd yA_requireHand bA_requireHand 3 none) "HandTables" := ⟨hx, hb, hml, hown, hts⟩
  have hl := lv_entry ([.long x]) (n := 3) (Nat.le_of_ble_eq_true rfl)
  rw [lg_entry_eq]
  generalize (lg_sl ([.long x]) ++ List.replicate (3 - (lg_sl ([.long x])).length) Slot.unset).toArray = ls at hl ⊢
  have hl : lv_has ls 3 [(0, .long x)] := hl
  refine lv_lload_n hx hb dA_requireHand_0 rfl (lv_at hl 0 rfl) ?_
  refine pu_S (cJ_bitCount l _) rfl kA_J_bitCount hS bl_T trivial rfl ⟨Nat.le_of_ble_eq_true rfl, Nat.le_of_ble_eq_true rfl⟩ hl.1 rfl (Nat.le_of_ble_eq_true rfl) ⟨Nat.zero_le _, Nat.zero_le _⟩ dA_requireHand_1 ?_
  refine lv_topi (fun x1 ex1 => ?_)
  refine lv_istore_n (lv' := [(2, .int x1), (0, .long x)]) hx hb dA_requireHand_4 rfl hl (by decide) rfl (fun ls hl => ?_)
  refine lv_iload_n hx hb dA_requireHand_5 rfl (lv_at hl 0 rfl) ?_
  refine lv_iconst (v := 5) hx hb dA_requireHand_6 (by decide) ?_
  refine lv_icmp_lt (tgt := 26) hx hb dA_requireHand_7 (by decide) (fun hc2 => ?_) (fun hc2 => ?_)
  · exact px_throw (cls := ex_IA) (text := "not five to seven cards") hx hb hst hown hts hB (by decide +kernel) (gw_mem 97 rfl rfl) (gw_mem 33 rfl rfl) (by decide) at_IA an_IA ag_IA (by rw [hml]; exact hl.1) dA_requireHand_26 dA_requireHand_29 dA_requireHand_30 dA_requireHand_32 dA_requireHand_35 hout (Nat.le_of_ble_eq_true rfl) (Nat.le_of_ble_eq_true rfl) (Nat.le_of_ble_eq_true rfl) (Nat.le_of_ble_eq_true rfl) hlk (by subst ex1; exact if_pos (Or.inl hc2))
  · refine lv_iload_n hx hb dA_requireHand_10 rfl (lv_at hl 0 rfl) ?_
    refine lv_bipush (v := 7) hx hb dA_requireHand_11 (by decide) ?_
    refine lv_icmp_gt (tgt := 26) hx hb dA_requireHand_13 (by decide) (fun hc3 => ?_) (fun hc3 => ?_)
    · exact px_throw (cls := ex_IA) (text := "not five to seven cards") hx hb hst hown hts hB (by decide +kernel) (gw_mem 97 rfl rfl) (gw_mem 33 rfl rfl) (by decide) at_IA an_IA ag_IA (by rw [hml]; exact hl.1) dA_requireHand_26 dA_requireHand_29 dA_requireHand_30 dA_requireHand_32 dA_requireHand_35 hout (Nat.le_of_ble_eq_true rfl) (Nat.le_of_ble_eq_true rfl) (Nat.le_of_ble_eq_true rfl) (Nat.le_of_ble_eq_true rfl) hlk (by subst ex1; exact if_pos (Or.inr (Or.inl hc3)))
    · refine lv_lload_n hx hb dA_requireHand_16 rfl (lv_at hl 1 rfl) ?_
      refine lv_ldc2 (v := (-4503599627370496)) hx hb hown (hts _ (wd_in (gw_mem 96 rfl rfl))) dA_requireHand_17 ?_
      refine lv_land hx hb dA_requireHand_20 ?_
      refine lv_lconst (v := 0) hx hb dA_requireHand_21 (by decide) ?_
      refine jv_lceq (tgt := 36) hx hb dA_requireHand_22 dA_requireHand_23 (by decide) (fun hc4 => ?_) (fun hc4 => ?_)
      · exact px_vret hx hb hr hlk dA_requireHand_36 (by subst ex1; exact if_neg (fun h => by rcases h with h | h | h <;> contradiction))
      · exact px_throw (cls := ex_IA) (text := "not five to seven cards") hx hb hst hown hts hB (by decide +kernel) (gw_mem 97 rfl rfl) (gw_mem 33 rfl rfl) (by decide) at_IA an_IA ag_IA (by rw [hml]; exact hl.1) dA_requireHand_26 dA_requireHand_29 dA_requireHand_30 dA_requireHand_32 dA_requireHand_35 hout (Nat.le_of_ble_eq_true rfl) (Nat.le_of_ble_eq_true rfl) (Nat.le_of_ble_eq_true rfl) (Nat.le_of_ble_eq_true rfl) hlk (by subst ex1; exact if_pos (Or.inr (Or.inr hc4)))
set_option maxHeartbeats 4000000 in
set_option maxRecDepth 100000 in
theorem cA_requireValue (l : Launch) (k : Int32) (hst : l.stackTraces = false)  : px_M l yA_requireValue bA_requireValue 1 none 6 [.int k] ex_F (if q_val k then .inl ex_IA else .inr none) := by
  refine vx_ofW (cc := bA_requireValue) (maxL := 1) (ret := none) (by decide) rfl ?_
  intro p e s m args below meth c s₁ BB hml hout hv
  obtain ⟨rfl, hB⟩ := hv
  have hx := BB.exec
  have hb := BB.bytes
  have hr := BB.returns
  have hlk := BB.notSynchronized
  have hts := atoms_spec (ws := wd yA_requireValue bA_requireValue 1 none) BB.pre
  have hown : s.vm.findClass "HandTables" = some m.cls := findClass_of_methodNamed BB.named
  have hS : CallFix p m c bA_requireValue 1 s _ (wd yA_requireValue bA_requireValue 1 none) "HandTables" := ⟨hx, hb, hml, hown, hts⟩
  have hl := lv_entry ([.int k]) (n := 1) (Nat.le_of_ble_eq_true rfl)
  rw [lg_entry_eq]
  generalize (lg_sl ([.int k]) ++ List.replicate (1 - (lg_sl ([.int k])).length) Slot.unset).toArray = ls at hl ⊢
  have hl : lv_has ls 1 [(0, .int k)] := hl
  refine lv_iload_n hx hb dA_requireValue_0 rfl (lv_at hl 0 rfl) ?_
  refine lv_if_lt (tgt := 11) hx hb dA_requireValue_1 (by decide) (fun hc1 => ?_) (fun hc1 => ?_)
  · exact px_throw (cls := ex_IA) (text := "no such value") hx hb hst hown hts hB (by decide +kernel) (gw_mem 97 rfl rfl) (gw_mem 33 rfl rfl) (by decide) at_IA an_IA ag_IA (by rw [hml]; exact hl.1) dA_requireValue_11 dA_requireValue_14 dA_requireValue_15 dA_requireValue_17 dA_requireValue_20 hout (Nat.le_of_ble_eq_true rfl) (Nat.le_of_ble_eq_true rfl) (Nat.le_of_ble_eq_true rfl) (Nat.le_of_ble_eq_true rfl) hlk (by exact if_pos (Or.inl hc1))
  · refine lv_iload_n hx hb dA_requireValue_4 rfl (lv_at hl 0 rfl) ?_
    refine lv_sipush (v := 7462) hx hb dA_requireValue_5 (by decide) ?_
    refine lv_icmp_lt (tgt := 21) hx hb dA_requireValue_8 (by decide) (fun hc2 => ?_) (fun hc2 => ?_)
    · exact px_vret hx hb hr hlk dA_requireValue_21 (by exact if_neg (fun h => by rcases h with h | h <;> contradiction))
    · exact px_throw (cls := ex_IA) (text := "no such value") hx hb hst hown hts hB (by decide +kernel) (gw_mem 97 rfl rfl) (gw_mem 33 rfl rfl) (by decide) at_IA an_IA ag_IA (by rw [hml]; exact hl.1) dA_requireValue_11 dA_requireValue_14 dA_requireValue_15 dA_requireValue_17 dA_requireValue_20 hout (Nat.le_of_ble_eq_true rfl) (Nat.le_of_ble_eq_true rfl) (Nat.le_of_ble_eq_true rfl) (Nat.le_of_ble_eq_true rfl) hlk (by exact if_pos (Or.inr hc2))
set_option maxHeartbeats 4000000 in
set_option maxRecDepth 100000 in
theorem cA_requireSeat (l : Launch) (k : Int32) (hst : l.stackTraces = false)  : px_M l yA_requireSeat bA_requireSeat 1 none 6 [.int k] ex_F (if q_seat k then .inl ex_IO else .inr none) := by
  refine vx_ofW (cc := bA_requireSeat) (maxL := 1) (ret := none) (by decide) rfl ?_
  intro p e s m args below meth c s₁ BB hml hout hv
  obtain ⟨rfl, hB⟩ := hv
  have hx := BB.exec
  have hb := BB.bytes
  have hr := BB.returns
  have hlk := BB.notSynchronized
  have hts := atoms_spec (ws := wd yA_requireSeat bA_requireSeat 1 none) BB.pre
  have hown : s.vm.findClass "HandTables" = some m.cls := findClass_of_methodNamed BB.named
  have hS : CallFix p m c bA_requireSeat 1 s _ (wd yA_requireSeat bA_requireSeat 1 none) "HandTables" := ⟨hx, hb, hml, hown, hts⟩
  have hl := lv_entry ([.int k]) (n := 1) (Nat.le_of_ble_eq_true rfl)
  rw [lg_entry_eq]
  generalize (lg_sl ([.int k]) ++ List.replicate (1 - (lg_sl ([.int k])).length) Slot.unset).toArray = ls at hl ⊢
  have hl : lv_has ls 1 [(0, .int k)] := hl
  refine lv_iload_n hx hb dA_requireSeat_0 rfl (lv_at hl 0 rfl) ?_
  refine lv_if_lt (tgt := 10) hx hb dA_requireSeat_1 (by decide) (fun hc1 => ?_) (fun hc1 => ?_)
  · exact px_throw (cls := ex_IO) (text := "no such seat") hx hb hst hown hts hB (by decide +kernel) (gw_mem 280 rfl rfl) (gw_mem 34 rfl rfl) (by decide) at_IO an_IO ag_IO (by rw [hml]; exact hl.1) dA_requireSeat_10 dA_requireSeat_13 dA_requireSeat_14 dA_requireSeat_16 dA_requireSeat_19 hout (Nat.le_of_ble_eq_true rfl) (Nat.le_of_ble_eq_true rfl) (Nat.le_of_ble_eq_true rfl) (Nat.le_of_ble_eq_true rfl) hlk (by exact if_pos (Or.inl hc1))
  · refine lv_iload_n hx hb dA_requireSeat_4 rfl (lv_at hl 0 rfl) ?_
    refine lv_bipush (v := 6) hx hb dA_requireSeat_5 (by decide) ?_
    refine lv_icmp_lt (tgt := 20) hx hb dA_requireSeat_7 (by decide) (fun hc2 => ?_) (fun hc2 => ?_)
    · exact px_vret hx hb hr hlk dA_requireSeat_20 (by exact if_neg (fun h => by rcases h with h | h <;> contradiction))
    · exact px_throw (cls := ex_IO) (text := "no such seat") hx hb hst hown hts hB (by decide +kernel) (gw_mem 280 rfl rfl) (gw_mem 34 rfl rfl) (by decide) at_IO an_IO ag_IO (by rw [hml]; exact hl.1) dA_requireSeat_10 dA_requireSeat_13 dA_requireSeat_14 dA_requireSeat_16 dA_requireSeat_19 hout (Nat.le_of_ble_eq_true rfl) (Nat.le_of_ble_eq_true rfl) (Nat.le_of_ble_eq_true rfl) (Nat.le_of_ble_eq_true rfl) hlk (by exact if_pos (Or.inr hc2))
set_option maxHeartbeats 4000000 in
set_option maxRecDepth 100000 in
theorem cA_requireCard (l : Launch) (k : Int32) (hst : l.stackTraces = false)  : px_M l yA_requireCard bA_requireCard 1 none 6 [.int k] ex_F (if q_card k then .inl ex_IA else .inr none) := by
  refine vx_ofW (cc := bA_requireCard) (maxL := 1) (ret := none) (by decide) rfl ?_
  intro p e s m args below meth c s₁ BB hml hout hv
  obtain ⟨rfl, hB⟩ := hv
  have hx := BB.exec
  have hb := BB.bytes
  have hr := BB.returns
  have hlk := BB.notSynchronized
  have hts := atoms_spec (ws := wd yA_requireCard bA_requireCard 1 none) BB.pre
  have hown : s.vm.findClass "HandTables" = some m.cls := findClass_of_methodNamed BB.named
  have hS : CallFix p m c bA_requireCard 1 s _ (wd yA_requireCard bA_requireCard 1 none) "HandTables" := ⟨hx, hb, hml, hown, hts⟩
  have hl := lv_entry ([.int k]) (n := 1) (Nat.le_of_ble_eq_true rfl)
  rw [lg_entry_eq]
  generalize (lg_sl ([.int k]) ++ List.replicate (1 - (lg_sl ([.int k])).length) Slot.unset).toArray = ls at hl ⊢
  have hl : lv_has ls 1 [(0, .int k)] := hl
  refine lv_iload_n hx hb dA_requireCard_0 rfl (lv_at hl 0 rfl) ?_
  refine lv_if_lt (tgt := 10) hx hb dA_requireCard_1 (by decide) (fun hc1 => ?_) (fun hc1 => ?_)
  · exact px_throw (cls := ex_IA) (text := "no card") hx hb hst hown hts hB (by decide +kernel) (gw_mem 97 rfl rfl) (gw_mem 33 rfl rfl) (by decide) at_IA an_IA ag_IA (by rw [hml]; exact hl.1) dA_requireCard_10 dA_requireCard_13 dA_requireCard_14 dA_requireCard_16 dA_requireCard_19 hout (Nat.le_of_ble_eq_true rfl) (Nat.le_of_ble_eq_true rfl) (Nat.le_of_ble_eq_true rfl) (Nat.le_of_ble_eq_true rfl) hlk (by exact if_pos (Or.inl hc1))
  · refine lv_iload_n hx hb dA_requireCard_4 rfl (lv_at hl 0 rfl) ?_
    refine lv_bipush (v := 52) hx hb dA_requireCard_5 (by decide) ?_
    refine lv_icmp_lt (tgt := 20) hx hb dA_requireCard_7 (by decide) (fun hc2 => ?_) (fun hc2 => ?_)
    · exact px_vret hx hb hr hlk dA_requireCard_20 (by exact if_neg (fun h => by rcases h with h | h <;> contradiction))
    · exact px_throw (cls := ex_IA) (text := "no card") hx hb hst hown hts hB (by decide +kernel) (gw_mem 97 rfl rfl) (gw_mem 33 rfl rfl) (by decide) at_IA an_IA ag_IA (by rw [hml]; exact hl.1) dA_requireCard_10 dA_requireCard_13 dA_requireCard_14 dA_requireCard_16 dA_requireCard_19 hout (Nat.le_of_ble_eq_true rfl) (Nat.le_of_ble_eq_true rfl) (Nat.le_of_ble_eq_true rfl) (Nat.le_of_ble_eq_true rfl) hlk (by exact if_pos (Or.inr hc2))
set_option maxHeartbeats 4000000 in
set_option maxRecDepth 100000 in
theorem cA_boardSize (l : Launch) (g : xo_E) (T : Nat → Int64) (dk : Nat → Int32) (dn : Int32)   : pu_M l yA_boardSize bA_boardSize 1 (some .int) 1 [.ref (xo_a g)] (xo_F g T dk dn) (.int (g_bs T)) := by
  refine Met.ofW (cc := bA_boardSize) (maxL := 1) (ret := (some .int)) (by decide) rfl ?_
  intro p e s m args below meth c s₁ BB hml hv
  obtain ⟨rfl, hB⟩ := hv
  have hx := BB.exec
  have hb := BB.bytes
  have hr := BB.returns
  have hlk := BB.notSynchronized
  have hts := atoms_spec (ws := wd yA_boardSize bA_boardSize 1 (some .int)) BB.pre
  have hown : s.vm.findClass "HandTables" = some m.cls := findClass_of_methodNamed BB.named
  have hS : CallFix p m c bA_boardSize 1 s _ (wd yA_boardSize bA_boardSize 1 (some .int)) "HandTables" := ⟨hx, hb, hml, hown, hts⟩
  obtain ⟨hTa, hEx, hP, hK⟩ := id hB
  obtain ⟨⟨t1, hT1⟩, ⟨t2, hT2⟩, ⟨t3, hT3⟩, ⟨t4, hT4⟩⟩ := id hTa
  have hl := lv_entry ([.ref (xo_a g)]) (n := 1) (Nat.le_of_ble_eq_true rfl)
  rw [lg_entry_eq]
  generalize (lg_sl ([.ref (xo_a g)]) ++ List.replicate (1 - (lg_sl ([.ref (xo_a g)])).length) Slot.unset).toArray = ls at hl ⊢
  have hl : lv_has ls 1 [(0, .ref (xo_a g))] := hl
  refine lv_aload_n hx hb dA_boardSize_0 rfl (lv_at hl 0 rfl) ?_
  refine va_get (D := g.1) (ci := 0) (v := .ref (xo_t g)) (C := "HandTables") (T := T_A) (N := 3) hx hb hts (fun w hw => wd_in (u_inA w hw)) hown hK hP 0 rfl rfl 0 (by decide) (hts _ (wd_in (gw_mem 49 rfl rfl))) (fun _ h => h) rfl dA_boardSize_1 ?_
  refine lv_bipush (v := 6) hx hb dA_boardSize_4 (by decide) ?_
  refine va_lald hx hb hK hP 1 0 rfl rfl (by unfold vp_in; decide) dA_boardSize_6 ?_
  refine pu_S (cJ_bitCount l _) rfl kA_J_bitCount hS bl_T trivial rfl ⟨Nat.le_of_ble_eq_true rfl, Nat.le_of_ble_eq_true rfl⟩ hl.1 rfl (Nat.le_of_ble_eq_true rfl) ⟨Nat.zero_le _, Nat.zero_le _⟩ dA_boardSize_7 ?_
  exact pu_iret hx hb hr hlk dA_boardSize_10 (by rfl)
set_option maxHeartbeats 4000000 in
set_option maxRecDepth 100000 in
theorem cA_missing (l : Launch) (g : xo_E) (T : Nat → Int64) (dk : Nat → Int32) (dn : Int32)   : pu_M l yA_missing bA_missing 1 (some .int) 2 [.ref (xo_a g)] (xo_F g T dk dn) (.int (5 - g_bs T)) := by
  refine Met.ofW (cc := bA_missing) (maxL := 1) (ret := (some .int)) (by decide) rfl ?_
  intro p e s m args below meth c s₁ BB hml hv
  obtain ⟨rfl, hB⟩ := hv
  have hx := BB.exec
  have hb := BB.bytes
  have hr := BB.returns
  have hlk := BB.notSynchronized
  have hts := atoms_spec (ws := wd yA_missing bA_missing 1 (some .int)) BB.pre
  have hown : s.vm.findClass "HandTables" = some m.cls := findClass_of_methodNamed BB.named
  have hS : CallFix p m c bA_missing 1 s _ (wd yA_missing bA_missing 1 (some .int)) "HandTables" := ⟨hx, hb, hml, hown, hts⟩
  obtain ⟨hTa, hEx, hP, hK⟩ := id hB
  obtain ⟨⟨t1, hT1⟩, ⟨t2, hT2⟩, ⟨t3, hT3⟩, ⟨t4, hT4⟩⟩ := id hTa
  have hl := lv_entry ([.ref (xo_a g)]) (n := 1) (Nat.le_of_ble_eq_true rfl)
  rw [lg_entry_eq]
  generalize (lg_sl ([.ref (xo_a g)]) ++ List.replicate (1 - (lg_sl ([.ref (xo_a g)])).length) Slot.unset).toArray = ls at hl ⊢
  have hl : lv_has ls 1 [(0, .ref (xo_a g))] := hl
  refine lv_iconst (v := 5) hx hb dA_missing_0 (by decide) ?_
  refine lv_aload_n hx hb dA_missing_1 rfl (lv_at hl 0 rfl) ?_
  refine pu_V (cA_boardSize l g T dk dn ) rfl kA_A_boardSize hS bl_xo hB rfl (xo_rc hB) ⟨Nat.le_of_ble_eq_true rfl, Nat.le_of_ble_eq_true rfl⟩ hl.1 rfl (Nat.le_of_ble_eq_true rfl) ⟨Nat.zero_le _, Nat.zero_le _⟩ dA_missing_2 ?_
  refine lv_isub hx hb dA_missing_5 ?_
  exact pu_iret hx hb hr hlk dA_missing_6 (by rfl)
set_option maxHeartbeats 4000000 in
set_option maxRecDepth 100000 in
theorem cA_standing (l : Launch) (g : xo_E) (T : Nat → Int64) (dk : Nat → Int32) (dn : Int32)   : pu_M l yA_standing bA_standing 4 (some .long) 0 [.ref (xo_a g)] (xo_F g T dk dn) (.long (g_stand T)) := by
  refine Met.ofW (cc := bA_standing) (maxL := 4) (ret := (some .long)) (by decide) rfl ?_
  intro p e s m args below meth c s₁ BB hml hv
  obtain ⟨rfl, hB⟩ := hv
  have hx := BB.exec
  have hb := BB.bytes
  have hr := BB.returns
  have hlk := BB.notSynchronized
  have hts := atoms_spec (ws := wd yA_standing bA_standing 4 (some .long)) BB.pre
  have hown : s.vm.findClass "HandTables" = some m.cls := findClass_of_methodNamed BB.named
  have hS : CallFix p m c bA_standing 4 s _ (wd yA_standing bA_standing 4 (some .long)) "HandTables" := ⟨hx, hb, hml, hown, hts⟩
  obtain ⟨hTa, hEx, hP, hK⟩ := id hB
  obtain ⟨⟨t1, hT1⟩, ⟨t2, hT2⟩, ⟨t3, hT3⟩, ⟨t4, hT4⟩⟩ := id hTa
  have hl := lv_entry ([.ref (xo_a g)]) (n := 4) (Nat.le_of_ble_eq_true rfl)
  rw [lg_entry_eq]
  generalize (lg_sl ([.ref (xo_a g)]) ++ List.replicate (4 - (lg_sl ([.ref (xo_a g)])).length) Slot.unset).toArray = ls at hl ⊢
  have hl : lv_has ls 4 [(0, .ref (xo_a g))] := hl
  refine lv_lconst (v := 0) hx hb dA_standing_0 (by decide) ?_
  refine lv_topl (fun x1 ex1 => ?_)
  refine lv_lstore_n (lv' := [(1, .long x1), (0, .ref (xo_a g))]) hx hb dA_standing_1 rfl hl (by decide) rfl (fun ls hl => ?_)
  refine lv_iconst (v := 0) hx hb dA_standing_2 (by decide) ?_
  refine lv_topi (fun x2 ex2 => ?_)
  refine lv_istore_n (lv' := [(3, .int x2), (1, .long x1), (0, .ref (xo_a g))]) hx hb dA_standing_3 rfl hl (by decide) rfl (fun ls hl => ?_)
  have hloop : ∀ (n : Nat) (a : Int64) (ls : Array Slot), lv_has ls 4 [(3, .int (nI (7 - n))), (1, .long a), (0, .ref (xo_a g))] → (n ≤ 7) → (∀ ls : Array Slot, lv_has ls 4 [(1, .long (st_lp T n a))] → W p l e (headSpec (wd yA_standing bA_standing 4 (some .long)) (rmD 0 0 0)).room s m ([.ref (xo_a g)]).toArray below meth c s.heap [] 0 0 (MQ below (pu_Q (.long (g_stand T))) ([.ref (xo_a g)]).toArray s 0 0 (fun _ => False)) (F0 m 25 ls [])) → W p l e (headSpec (wd yA_standing bA_standing 4 (some .long)) (rmD 0 0 0)).room s m ([.ref (xo_a g)]).toArray below meth c s.heap [] 0 0 (MQ below (pu_Q (.long (g_stand T))) ([.ref (xo_a g)]).toArray s 0 0 (fun _ => False)) (F0 m 4 ls []) := by
    intro n
    induction n with
    | zero =>
      intro a ls hl hn K
      refine lv_iload_n hx hb dA_standing_4 rfl (lv_at hl 0 rfl) ?_
      refine lv_bipush (v := 6) hx hb dA_standing_5 (by decide) ?_
      refine lv_icmp_gt (tgt := 25) hx hb dA_standing_7 (by decide) (fun hc3 => ?_) (fun hc3 => ?_)
      · simp only [st_lp] at K
        exact K _ (lv_sub hl [1] rfl)
      · exact absurd (by decide) hc3
    | succ n ih =>
      intro a ls hl hn K
      refine lv_iload_n hx hb dA_standing_4 rfl (lv_at hl 0 rfl) ?_
      refine lv_bipush (v := 6) hx hb dA_standing_5 (by decide) ?_
      refine lv_icmp_gt (tgt := 25) hx hb dA_standing_7 (by decide) (fun hc4 => ?_) (fun hc4 => ?_)
      · exact absurd hc4 (by have := nI_nlt (a := 6) (b := 7 - (n + 1)) (by omega) (by decide); exact this)
      · refine lv_lload_n hx hb dA_standing_10 rfl (lv_at hl 1 rfl) ?_
        refine lv_aload_n hx hb dA_standing_11 rfl (lv_at hl 2 rfl) ?_
        refine va_get (D := g.1) (ci := 0) (v := .ref (xo_t g)) (C := "HandTables") (T := T_A) (N := 3) hx hb hts (fun w hw => wd_in (u_inA w hw)) hown hK hP 0 rfl rfl 0 (by decide) (hts _ (wd_in (gw_mem 49 rfl rfl))) (fun _ h => h) rfl dA_standing_12 ?_
        refine lv_iload_n hx hb dA_standing_15 rfl (lv_at hl 0 rfl) ?_
        refine va_lald hx hb hK hP 1 0 rfl rfl (vp_in_nI (by omega) (by decide)) dA_standing_16 ?_
        refine lv_lor hx hb dA_standing_17 ?_
        refine lv_topl (fun x5 ex5 => ?_)
        refine lv_lstore_n (lv' := [(1, .long x5), (3, .int (nI (7 - (n + 1)))), (0, .ref (xo_a g))]) hx hb dA_standing_18 rfl hl (by decide) rfl (fun ls hl => ?_)
        refine jv_iinc (a := 1) hx hb dA_standing_19 hl (k := 1) rfl (by decide) (by decide) (fun x6 ex6 ls hl => ?_)
        have hl : lv_has ls 4 [(3, .int x6), (1, .long x5), (0, .ref (xo_a g))] := hl
        refine lv_goto (tgt := 4) hx hb dA_standing_22 (by decide) ?_
        rw [nI_up (by omega)] at ex6
        subst ex6 ex5
        simp only [st_lp] at K
        exact ih _ ls (lv_sub hl [0, 1, 2] rfl) (by omega) K
  refine hloop 7 x1 ls (by have h9 := lv_sub hl [0, 1, 2] rfl; subst ex2; exact h9) (by decide) (fun ls hl => ?_)
  clear hloop
  obtain ⟨y7, ey7⟩ : ∃ z, z = (st_lp T 7 x1) := ⟨_, rfl⟩
  rw [← ey7] at hl
  refine lv_lload_n hx hb dA_standing_25 rfl (lv_at hl 0 rfl) ?_
  exact pu_lret hx hb hr hlk dA_standing_26 (by subst ey7 ex2 ex1; rfl)
set_option maxHeartbeats 4000000 in
set_option maxRecDepth 100000 in
theorem cA_free (l : Launch) (g : xo_E) (T : Nat → Int64) (dk : Nat → Int32) (dn : Int32)   : pu_M l yA_free bA_free 1 (some .long) 1 [.ref (xo_a g)] (xo_F g T dk dn) (.long (g_free T)) := by
  refine Met.ofW (cc := bA_free) (maxL := 1) (ret := (some .long)) (by decide) rfl ?_
  intro p e s m args below meth c s₁ BB hml hv
  obtain ⟨rfl, hB⟩ := hv
  have hx := BB.exec
  have hb := BB.bytes
  have hr := BB.returns
  have hlk := BB.notSynchronized
  have hts := atoms_spec (ws := wd yA_free bA_free 1 (some .long)) BB.pre
  have hown : s.vm.findClass "HandTables" = some m.cls := findClass_of_methodNamed BB.named
  have hS : CallFix p m c bA_free 1 s _ (wd yA_free bA_free 1 (some .long)) "HandTables" := ⟨hx, hb, hml, hown, hts⟩
  obtain ⟨hTa, hEx, hP, hK⟩ := id hB
  obtain ⟨⟨t1, hT1⟩, ⟨t2, hT2⟩, ⟨t3, hT3⟩, ⟨t4, hT4⟩⟩ := id hTa
  have hl := lv_entry ([.ref (xo_a g)]) (n := 1) (Nat.le_of_ble_eq_true rfl)
  rw [lg_entry_eq]
  generalize (lg_sl ([.ref (xo_a g)]) ++ List.replicate (1 - (lg_sl ([.ref (xo_a g)])).length) Slot.unset).toArray = ls at hl ⊢
  have hl : lv_has ls 1 [(0, .ref (xo_a g))] := hl
  refine lv_ldc2 (v := 4503599627370495) hx hb hown (hts _ (wd_in (gw_mem 384 rfl rfl))) dA_free_0 ?_
  refine lv_aload_n hx hb dA_free_3 rfl (lv_at hl 0 rfl) ?_
  refine pu_V (cA_standing l g T dk dn ) rfl kA_A_standing hS bl_xo hB rfl (xo_rc hB) ⟨Nat.le_of_ble_eq_true rfl, Nat.le_of_ble_eq_true rfl⟩ hl.1 rfl (Nat.le_of_ble_eq_true rfl) ⟨Nat.zero_le _, Nat.zero_le _⟩ dA_free_4 ?_
  refine lv_ldc2 (v := (-1)) hx hb hown (hts _ (wd_in (gw_mem 183 rfl rfl))) dA_free_7 ?_
  refine lv_lxor hx hb dA_free_10 ?_
  refine lv_land hx hb dA_free_11 ?_
  exact pu_lret hx hb hr hlk dA_free_12 (by rfl)
set_option maxHeartbeats 4000000 in
set_option maxRecDepth 100000 in
theorem cA_requireTaken (l : Launch) (g : xo_E) (T : Nat → Int64) (dk : Nat → Int32) (dn : Int32) (k : Int32) (hst : l.stackTraces = false) (hk : vp_in k 7) : px_M l yA_requireTaken bA_requireTaken 2 none 6 [.ref (xo_a g), .int k] (xo_F g T dk dn) (if T k.toNatClampNeg = 0 then .inl ex_IS else .inr none) := by
  refine vx_ofW (cc := bA_requireTaken) (maxL := 2) (ret := none) (by decide) rfl ?_
  intro p e s m args below meth c s₁ BB hml hout hv
  obtain ⟨rfl, hB⟩ := hv
  have hx := BB.exec
  have hb := BB.bytes
  have hr := BB.returns
  have hlk := BB.notSynchronized
  have hts := atoms_spec (ws := wd yA_requireTaken bA_requireTaken 2 none) BB.pre
  have hown : s.vm.findClass "HandTables" = some m.cls := findClass_of_methodNamed BB.named
  have hS : CallFix p m c bA_requireTaken 2 s _ (wd yA_requireTaken bA_requireTaken 2 none) "HandTables" := ⟨hx, hb, hml, hown, hts⟩
  obtain ⟨hTa, hEx, hP, hK⟩ := id hB
  obtain ⟨⟨t1, hT1⟩, ⟨t2, hT2⟩, ⟨t3, hT3⟩, ⟨t4, hT4⟩⟩ := id hTa
  have hl := lv_entry ([.ref (xo_a g), .int k]) (n := 2) (Nat.le_of_ble_eq_true rfl)
  rw [lg_entry_eq]
  generalize (lg_sl ([.ref (xo_a g), .int k]) ++ List.replicate (2 - (lg_sl ([.ref (xo_a g), .int k])).length) Slot.unset).toArray = ls at hl ⊢
  have hl : lv_has ls 2 [(0, .ref (xo_a g)), (1, .int k)] := hl
  refine lv_aload_n hx hb dA_requireTaken_0 rfl (lv_at hl 0 rfl) ?_
  refine va_get (D := g.1) (ci := 0) (v := .ref (xo_t g)) (C := "HandTables") (T := T_A) (N := 3) hx hb hts (fun w hw => wd_in (u_inA w hw)) hown hK hP 0 rfl rfl 0 (by decide) (hts _ (wd_in (gw_mem 49 rfl rfl))) (fun _ h => h) rfl dA_requireTaken_1 ?_
  refine lv_iload_n hx hb dA_requireTaken_4 rfl (lv_at hl 1 rfl) ?_
  refine va_lald hx hb hK hP 1 0 rfl rfl hk dA_requireTaken_5 ?_
  refine lv_lconst (v := 0) hx hb dA_requireTaken_6 (by decide) ?_
  refine jv_lcne (tgt := 21) hx hb dA_requireTaken_7 dA_requireTaken_8 (by decide) (fun hc1 => ?_) (fun hc1 => ?_)
  · exact px_vret hx hb hr hlk dA_requireTaken_21 (by exact if_neg hc1)
  · exact px_throw (cls := ex_IS) (text := "the seat is empty") hx hb hst hown hts hEx (by decide +kernel) (gw_mem 341 rfl rfl) (gw_mem 35 rfl rfl) (by decide) at_IS an_IS ag_IS (by rw [hml]; exact hl.1) dA_requireTaken_11 dA_requireTaken_14 dA_requireTaken_15 dA_requireTaken_17 dA_requireTaken_20 hout (Nat.le_of_ble_eq_true rfl) (Nat.le_of_ble_eq_true rfl) (Nat.le_of_ble_eq_true rfl) (Nat.le_of_ble_eq_true rfl) hlk (by exact if_pos hc1)
set_option maxHeartbeats 4000000 in
set_option maxRecDepth 100000 in
theorem cA_requireThreeOnBoard (l : Launch) (g : xo_E) (T : Nat → Int64) (dk : Nat → Int32) (dn : Int32)  (hst : l.stackTraces = false)  : px_M l yA_requireThreeOnBoard bA_requireThreeOnBoard 1 none 6 [.ref (xo_a g)] (xo_F g T dk dn) (if g_bs T < 3 then .inl ex_IS else .inr none) := by
  refine vx_ofW (cc := bA_requireThreeOnBoard) (maxL := 1) (ret := none) (by decide) rfl ?_
  intro p e s m args below meth c s₁ BB hml hout hv
  obtain ⟨rfl, hB⟩ := hv
  have hx := BB.exec
  have hb := BB.bytes
  have hr := BB.returns
  have hlk := BB.notSynchronized
  have hts := atoms_spec (ws := wd yA_requireThreeOnBoard bA_requireThreeOnBoard 1 none) BB.pre
  have hown : s.vm.findClass "HandTables" = some m.cls := findClass_of_methodNamed BB.named
  have hS : CallFix p m c bA_requireThreeOnBoard 1 s _ (wd yA_requireThreeOnBoard bA_requireThreeOnBoard 1 none) "HandTables" := ⟨hx, hb, hml, hown, hts⟩
  obtain ⟨hTa, hEx, hP, hK⟩ := id hB
  obtain ⟨⟨t1, hT1⟩, ⟨t2, hT2⟩, ⟨t3, hT3⟩, ⟨t4, hT4⟩⟩ := id hTa
  have hl := lv_entry ([.ref (xo_a g)]) (n := 1) (Nat.le_of_ble_eq_true rfl)
  rw [lg_entry_eq]
  generalize (lg_sl ([.ref (xo_a g)]) ++ List.replicate (1 - (lg_sl ([.ref (xo_a g)])).length) Slot.unset).toArray = ls at hl ⊢
  have hl : lv_has ls 1 [(0, .ref (xo_a g))] := hl
  refine lv_aload_n hx hb dA_requireThreeOnBoard_0 rfl (lv_at hl 0 rfl) ?_
  refine pu_V (cA_boardSize l g T dk dn ) rfl kA_A_boardSize hS bl_xo hB rfl (xo_rc hB) ⟨Nat.le_of_ble_eq_true rfl, Nat.le_of_ble_eq_true rfl⟩ hl.1 rfl (Nat.le_of_ble_eq_true rfl) ⟨Nat.zero_le _, Nat.zero_le _⟩ dA_requireThreeOnBoard_1 ?_
  refine lv_iconst (v := 3) hx hb dA_requireThreeOnBoard_4 (by decide) ?_
  refine lv_icmp_ge (tgt := 18) hx hb dA_requireThreeOnBoard_5 (by decide) (fun hc1 => ?_) (fun hc1 => ?_)
  · exact px_vret hx hb hr hlk dA_requireThreeOnBoard_18 (by exact if_neg (Int32.not_lt.mpr hc1))
  · exact px_throw (cls := ex_IS) (text := "the board has less than three cards") hx hb hst hown hts hEx (by decide +kernel) (gw_mem 341 rfl rfl) (gw_mem 35 rfl rfl) (by decide) at_IS an_IS ag_IS (by rw [hml]; exact hl.1) dA_requireThreeOnBoard_8 dA_requireThreeOnBoard_11 dA_requireThreeOnBoard_12 dA_requireThreeOnBoard_14 dA_requireThreeOnBoard_17 hout (Nat.le_of_ble_eq_true rfl) (Nat.le_of_ble_eq_true rfl) (Nat.le_of_ble_eq_true rfl) (Nat.le_of_ble_eq_true rfl) hlk (by exact if_pos (Int32.not_le.mp hc1))
end
section
/-! who leads; how many boards -/
section JT
variable {p : Program} {l : Launch} {e : Env} {R : Room} {s : State} {m : MethodId} {args : Array Value} {below : List Frame} {meth : Method} {c : Code} {H : Heap} {locs : List Loc} {cells slots : Nat} {Q : State → Prop} {pc : Nat} {ls : Array Slot} {rest : List Value}
/-- the value on top gets a name (the name on the right: so 'subst' looks at nothing) -/
theorem jt_topi {x : Int32} (k : ∀ y : Int32, x = y → W p l e R s m args below meth c H locs cells slots Q (F0 m pc ls (.int y :: rest))) : W p l e R s m args below meth c H locs cells slots Q (F0 m pc ls (.int x :: rest)) := k x rfl
theorem jt_topl {x : Int64} (k : ∀ y : Int64, x = y → W p l e R s m args below meth c H locs cells slots Q (F0 m pc ls (.long y :: rest))) : W p l e R s m args below meth c H locs cells slots Q (F0 m pc ls (.long x :: rest)) := k x rfl
end JT
def ld_v (T : Nat → Int64) (b : Int64) (k : Int32) : Int32 := if T k.toNatClampNeg = 0 then -1 else f_valueOf (T k.toNatClampNeg ||| b)
def ld_g (v w : Int32) : Int32 := if v ≤ w then w else v
def ld_w (v h w k : Int32) : Int32 := if v ≤ h then (if v = -1 then w else if v = h then w ||| jli 1 k else w) else (if v = -1 then 0 else 0 ||| jli 1 k)
def ld_lp (T : Nat → Int64) (b : Int64) : Nat → Int32 → Int32 → Int32
  | 0, _, w => w
  | n + 1, h, w => ld_lp T b n (ld_g (ld_v T b (nI (6 - (n + 1)))) h) (ld_w (ld_v T b (nI (6 - (n + 1)))) h w (nI (6 - (n + 1))))
def g_lead (T : Nat → Int64) (b : Int64) : Int32 := ld_lp T b 6 (-1) 0
def cb_lp (G : Int64 → Int64 → Int32) (b : Int64) : Nat → Int32 → Int64 → Int32
  | 0, a, _ => a
  | n + 1, a, r => if r &&& jl 1 (nI (52 - (n + 1))) = 0 then cb_lp G b n a r
    else cb_lp G b n (a + G (b ||| (r &&& jl 1 (nI (52 - (n + 1))))) (r &&& ((r &&& jl 1 (nI (52 - (n + 1)))) ^^^ -1))) (r &&& ((r &&& jl 1 (nI (52 - (n + 1)))) ^^^ -1))
def g_cb (T : Nat → Int64) (k w : Int32) : Nat → Int64 → Int64 → Int32
  | 0, b, _ => if f_outcome k w (g_lead T b) = 0 then 0 else 1
  | n + 1, b, f => cb_lp (g_cb T k w n) b 52 0 f
set_option maxHeartbeats 4000000 in
set_option maxRecDepth 100000 in
theorem cA_leadersOn (l : Launch) (g : xo_E) (T : Nat → Int64) (dk : Nat → Int32) (dn : Int32) (b : Int64)  : pu_M l yA_leadersOn bA_leadersOn 7 (some .int) 5 [.ref (xo_t g), .long b] (xo_F g T dk dn) (.int (g_lead T b)) := by
  refine Met.ofW (cc := bA_leadersOn) (maxL := 7) (ret := (some .int)) (by decide) rfl ?_
  intro p e s m args below meth c s₁ BB hml hv
  obtain ⟨rfl, hB⟩ := hv
  have hx := BB.exec
  have hb := BB.bytes
  have hr := BB.returns
  have hlk := BB.notSynchronized
  have hts := atoms_spec (ws := wd yA_leadersOn bA_leadersOn 7 (some .int)) BB.pre
  have hown : s.vm.findClass "HandTables" = some m.cls := findClass_of_methodNamed BB.named
  have hS : CallFix p m c bA_leadersOn 7 s _ (wd yA_leadersOn bA_leadersOn 7 (some .int)) "HandTables" := ⟨hx, hb, hml, hown, hts⟩
  obtain ⟨hTa, hEx, hP, hK⟩ := id hB
  obtain ⟨⟨t1, hT1⟩, ⟨t2, hT2⟩, ⟨t3, hT3⟩, ⟨t4, hT4⟩⟩ := id hTa
  have hl := lv_entry ([.ref (xo_t g), .long b]) (n := 7) (Nat.le_of_ble_eq_true rfl)
  rw [lg_entry_eq]
  generalize (lg_sl ([.ref (xo_t g), .long b]) ++ List.replicate (7 - (lg_sl ([.ref (xo_t g), .long b])).length) Slot.unset).toArray = ls at hl ⊢
  have hl : lv_has ls 7 [(0, .ref (xo_t g)), (1, .long b)] := hl
  refine lv_iconst (v := (-1)) hx hb dA_leadersOn_0 (by decide) ?_
  refine jt_topi (fun x1 ex1 => ?_)
  refine lv_istore_n (lv' := [(3, .int x1), (0, .ref (xo_t g)), (1, .long b)]) hx hb dA_leadersOn_1 rfl hl (by decide) rfl (fun ls hl => ?_)
  refine lv_iconst (v := 0) hx hb dA_leadersOn_2 (by decide) ?_
  refine jt_topi (fun x2 ex2 => ?_)
  refine lv_istore (lv' := [(4, .int x2), (3, .int x1), (0, .ref (xo_t g)), (1, .long b)]) hx hb dA_leadersOn_3 hl (by decide) rfl (fun ls hl => ?_)
  refine lv_iconst (v := 0) hx hb dA_leadersOn_5 (by decide) ?_
  refine jt_topi (fun x3 ex3 => ?_)
  refine lv_istore (lv' := [(5, .int x3), (4, .int x2), (3, .int x1), (0, .ref (xo_t g)), (1, .long b)]) hx hb dA_leadersOn_6 hl (by decide) rfl (fun ls hl => ?_)
  have hloop : ∀ (n : Nat) (h : Int32) (w : Int32) (ls : Array Slot), lv_has ls 7 [(5, .int (nI (6 - n))), (3, .int h), (4, .int w), (0, .ref (xo_t g)), (1, .long b)] → (n ≤ 6) → (∀ ls : Array Slot, lv_has ls 7 [(4, .int (ld_lp T b n h w))] → W p l e (headSpec (wd yA_leadersOn bA_leadersOn 7 (some .int)) (rmD 5 0 0)).room s m ([.ref (xo_t g), .long b]).toArray below meth c s.heap [] 0 0 (MQ below (pu_Q (.int (g_lead T b))) ([.ref (xo_t g), .long b]).toArray s 0 0 (fun _ => False)) (F0 m 78 ls [])) → W p l e (headSpec (wd yA_leadersOn bA_leadersOn 7 (some .int)) (rmD 5 0 0)).room s m ([.ref (xo_t g), .long b]).toArray below meth c s.heap [] 0 0 (MQ below (pu_Q (.int (g_lead T b))) ([.ref (xo_t g), .long b]).toArray s 0 0 (fun _ => False)) (F0 m 8 ls []) := by
    intro n
    induction n with
    | zero =>
      intro h w ls hl hn K
      refine lv_iload hx hb dA_leadersOn_8 (lv_at hl 0 rfl) ?_
      refine lv_bipush (v := 6) hx hb dA_leadersOn_10 (by decide) ?_
      refine lv_icmp_ge (tgt := 78) hx hb dA_leadersOn_12 (by decide) (fun hc4 => ?_) (fun hc4 => ?_)
      · simp only [ld_lp, ld_v, ld_g, ld_w, if_true] at K
        exact K _ (lv_sub hl [2] rfl)
      · exact absurd (by decide) hc4
    | succ n ih =>
      intro h w ls hl hn K
      refine lv_iload hx hb dA_leadersOn_8 (lv_at hl 0 rfl) ?_
      refine lv_bipush (v := 6) hx hb dA_leadersOn_10 (by decide) ?_
      refine lv_icmp_ge (tgt := 78) hx hb dA_leadersOn_12 (by decide) (fun hc5 => ?_) (fun hc5 => ?_)
      · exact absurd hc5 (nI_ge (b := 6) (by omega) (by decide))
      · refine lv_aload_n hx hb dA_leadersOn_15 rfl (lv_at hl 3 rfl) ?_
        refine lv_iload hx hb dA_leadersOn_16 (lv_at hl 0 rfl) ?_
        refine va_lald hx hb hK hP 1 0 rfl rfl (vp_in_nI (by omega) (by decide)) dA_leadersOn_18 ?_
        refine lv_lconst (v := 0) hx hb dA_leadersOn_19 (by decide) ?_
        refine jv_lcne (tgt := 28) hx hb dA_leadersOn_20 dA_leadersOn_21 (by decide) (fun hc6 => ?_) (fun hc6 => ?_)
        · refine lv_aload_n hx hb dA_leadersOn_28 rfl (lv_at hl 3 rfl) ?_
          refine lv_iload hx hb dA_leadersOn_29 (lv_at hl 0 rfl) ?_
          refine va_lald hx hb hK hP 1 0 rfl rfl (vp_in_nI (by omega) (by decide)) dA_leadersOn_31 ?_
          refine lv_lload_n hx hb dA_leadersOn_32 rfl (lv_at hl 4 rfl) ?_
          refine lv_lor hx hb dA_leadersOn_33 ?_
          refine pu_S (cA_valueOf l _) rfl kA_A_valueOf hS bl_ta hTa rfl ⟨Nat.le_of_ble_eq_true rfl, Nat.le_of_ble_eq_true rfl⟩ hl.1 rfl (Nat.le_of_ble_eq_true rfl) ⟨Nat.zero_le _, Nat.zero_le _⟩ dA_leadersOn_34 ?_
          refine jt_topi (fun x7 ex7 => ?_)
          refine lv_istore (lv' := [(6, .int x7), (5, .int (nI (6 - (n + 1)))), (3, .int h), (4, .int w), (0, .ref (xo_t g)), (1, .long b)]) hx hb dA_leadersOn_37 hl (by decide) rfl (fun ls hl => ?_)
          refine lv_iload hx hb dA_leadersOn_39 (lv_at hl 0 rfl) ?_
          refine lv_iload_n hx hb dA_leadersOn_41 rfl (lv_at hl 2 rfl) ?_
          refine lv_icmp_le (tgt := 51) hx hb dA_leadersOn_42 (by decide) (fun hc8 => ?_) (fun hc8 => ?_)
          · refine lv_iload hx hb dA_leadersOn_51 (lv_at hl 0 rfl) ?_
            refine lv_iconst (v := (-1)) hx hb dA_leadersOn_53 (by decide) ?_
            refine lv_icmp_eq (tgt := 72) hx hb dA_leadersOn_54 (by decide) (fun hc9 => ?_) (fun hc9 => ?_)
            · refine jv_iinc (a := 1) hx hb dA_leadersOn_72 hl (k := 1) rfl (by decide) (by decide) (fun x10 ex10 ls hl => ?_)
              have hl : lv_has ls 7 [(5, .int x10), (6, .int x7), (3, .int h), (4, .int w), (0, .ref (xo_t g)), (1, .long b)] := hl
              refine lv_goto (tgt := 8) hx hb dA_leadersOn_75 (by decide) ?_
              rw [nI_up (by omega)] at ex10
              subst ex10 ex7
              simp only [ld_lp, ld_v, ld_g, ld_w, if_true, if_neg hc6, if_pos hc8, if_pos hc9] at K
              exact ih _ _ ls (lv_sub hl [0, 2, 3, 4, 5] rfl) (by omega) K
            · refine lv_iload hx hb dA_leadersOn_57 (lv_at hl 0 rfl) ?_
              refine lv_iload_n hx hb dA_leadersOn_59 rfl (lv_at hl 2 rfl) ?_
              refine lv_icmp_ne (tgt := 72) hx hb dA_leadersOn_60 (by decide) (fun hc11 => ?_) (fun hc11 => ?_)
              · refine jv_iinc (a := 1) hx hb dA_leadersOn_72 hl (k := 1) rfl (by decide) (by decide) (fun x12 ex12 ls hl => ?_)
                have hl : lv_has ls 7 [(5, .int x12), (6, .int x7), (3, .int h), (4, .int w), (0, .ref (xo_t g)), (1, .long b)] := hl
                refine lv_goto (tgt := 8) hx hb dA_leadersOn_75 (by decide) ?_
                rw [nI_up (by omega)] at ex12
                subst ex12 ex7
                simp only [ld_lp, ld_v, ld_g, ld_w, if_true, if_neg hc6, if_pos hc8, if_neg hc9, if_neg hc11] at K
                exact ih _ _ ls (lv_sub hl [0, 2, 3, 4, 5] rfl) (by omega) K
              · refine lv_iload hx hb dA_leadersOn_63 (lv_at hl 3 rfl) ?_
                refine lv_iconst (v := 1) hx hb dA_leadersOn_65 (by decide) ?_
                refine lv_iload hx hb dA_leadersOn_66 (lv_at hl 1 rfl) ?_
                refine jv_ishl hx hb dA_leadersOn_68 ?_
                refine lv_ior hx hb dA_leadersOn_69 ?_
                refine jt_topi (fun x13 ex13 => ?_)
                refine lv_istore (lv' := [(4, .int x13), (6, .int x7), (5, .int (nI (6 - (n + 1)))), (3, .int h), (0, .ref (xo_t g)), (1, .long b)]) hx hb dA_leadersOn_70 hl (by decide) rfl (fun ls hl => ?_)
                refine jv_iinc (a := 1) hx hb dA_leadersOn_72 hl (k := 2) rfl (by decide) (by decide) (fun x14 ex14 ls hl => ?_)
                have hl : lv_has ls 7 [(5, .int x14), (4, .int x13), (6, .int x7), (3, .int h), (0, .ref (xo_t g)), (1, .long b)] := hl
                refine lv_goto (tgt := 8) hx hb dA_leadersOn_75 (by decide) ?_
                rw [nI_up (by omega)] at ex14
                subst ex14 ex13 ex7
                simp only [ld_lp, ld_v, ld_g, ld_w, if_true, if_neg hc6, if_pos hc8, if_neg hc9, if_pos hc11] at K
                exact ih _ _ ls (lv_sub hl [0, 3, 1, 4, 5] rfl) (by omega) K
          · refine lv_iload hx hb dA_leadersOn_45 (lv_at hl 0 rfl) ?_
            refine jt_topi (fun x15 ex15 => ?_)
            refine lv_istore_n (lv' := [(3, .int x15), (6, .int x7), (5, .int (nI (6 - (n + 1)))), (4, .int w), (0, .ref (xo_t g)), (1, .long b)]) hx hb dA_leadersOn_47 rfl hl (by decide) rfl (fun ls hl => ?_)
            refine lv_iconst (v := 0) hx hb dA_leadersOn_48 (by decide) ?_
            refine jt_topi (fun x16 ex16 => ?_)
            refine lv_istore (lv' := [(4, .int x16), (3, .int x15), (6, .int x7), (5, .int (nI (6 - (n + 1)))), (0, .ref (xo_t g)), (1, .long b)]) hx hb dA_leadersOn_49 hl (by decide) rfl (fun ls hl => ?_)
            refine lv_iload hx hb dA_leadersOn_51 (lv_at hl 2 rfl) ?_
            refine lv_iconst (v := (-1)) hx hb dA_leadersOn_53 (by decide) ?_
            refine lv_icmp_eq (tgt := 72) hx hb dA_leadersOn_54 (by decide) (fun hc17 => ?_) (fun hc17 => ?_)
            · refine jv_iinc (a := 1) hx hb dA_leadersOn_72 hl (k := 3) rfl (by decide) (by decide) (fun x18 ex18 ls hl => ?_)
              have hl : lv_has ls 7 [(5, .int x18), (4, .int x16), (3, .int x15), (6, .int x7), (0, .ref (xo_t g)), (1, .long b)] := hl
              refine lv_goto (tgt := 8) hx hb dA_leadersOn_75 (by decide) ?_
              rw [nI_up (by omega)] at ex18
              subst ex18 ex16 ex15 ex7
              simp only [ld_lp, ld_v, ld_g, ld_w, if_true, if_neg hc6, if_neg hc8, if_pos hc17] at K
              exact ih _ _ ls (lv_sub hl [0, 2, 1, 4, 5] rfl) (by omega) K
            · refine lv_iload hx hb dA_leadersOn_57 (lv_at hl 2 rfl) ?_
              refine lv_iload_n hx hb dA_leadersOn_59 rfl (lv_at hl 1 rfl) ?_
              refine lv_icmp_ne (tgt := 72) hx hb dA_leadersOn_60 (by decide) (fun hc19 => ?_) (fun hc19 => ?_)
              · exact absurd (by subst_vars; rfl) hc19
              · refine lv_iload hx hb dA_leadersOn_63 (lv_at hl 0 rfl) ?_
                refine lv_iconst (v := 1) hx hb dA_leadersOn_65 (by decide) ?_
                refine lv_iload hx hb dA_leadersOn_66 (lv_at hl 3 rfl) ?_
                refine jv_ishl hx hb dA_leadersOn_68 ?_
                refine lv_ior hx hb dA_leadersOn_69 ?_
                refine jt_topi (fun x20 ex20 => ?_)
                refine lv_istore (lv' := [(4, .int x20), (3, .int x15), (6, .int x7), (5, .int (nI (6 - (n + 1)))), (0, .ref (xo_t g)), (1, .long b)]) hx hb dA_leadersOn_70 hl (by decide) rfl (fun ls hl => ?_)
                refine jv_iinc (a := 1) hx hb dA_leadersOn_72 hl (k := 3) rfl (by decide) (by decide) (fun x21 ex21 ls hl => ?_)
                have hl : lv_has ls 7 [(5, .int x21), (4, .int x20), (3, .int x15), (6, .int x7), (0, .ref (xo_t g)), (1, .long b)] := hl
                refine lv_goto (tgt := 8) hx hb dA_leadersOn_75 (by decide) ?_
                rw [nI_up (by omega)] at ex21
                subst ex21 ex20 ex16 ex15 ex7
                simp only [ld_lp, ld_v, ld_g, ld_w, if_true, if_neg hc6, if_neg hc8, if_neg hc17] at K
                exact ih _ _ ls (lv_sub hl [0, 2, 1, 4, 5] rfl) (by omega) K
        · refine lv_iconst (v := (-1)) hx hb dA_leadersOn_24 (by decide) ?_
          refine lv_goto (tgt := 37) hx hb dA_leadersOn_25 (by decide) ?_
          refine jt_topi (fun x22 ex22 => ?_)
          refine lv_istore (lv' := [(6, .int x22), (5, .int (nI (6 - (n + 1)))), (3, .int h), (4, .int w), (0, .ref (xo_t g)), (1, .long b)]) hx hb dA_leadersOn_37 hl (by decide) rfl (fun ls hl => ?_)
          refine lv_iload hx hb dA_leadersOn_39 (lv_at hl 0 rfl) ?_
          refine lv_iload_n hx hb dA_leadersOn_41 rfl (lv_at hl 2 rfl) ?_
          refine lv_icmp_le (tgt := 51) hx hb dA_leadersOn_42 (by decide) (fun hc23 => ?_) (fun hc23 => ?_)
          · refine lv_iload hx hb dA_leadersOn_51 (lv_at hl 0 rfl) ?_
            refine lv_iconst (v := (-1)) hx hb dA_leadersOn_53 (by decide) ?_
            refine lv_icmp_eq (tgt := 72) hx hb dA_leadersOn_54 (by decide) (fun hc24 => ?_) (fun hc24 => ?_)
            · refine jv_iinc (a := 1) hx hb dA_leadersOn_72 hl (k := 1) rfl (by decide) (by decide) (fun x25 ex25 ls hl => ?_)
              have hl : lv_has ls 7 [(5, .int x25), (6, .int x22), (3, .int h), (4, .int w), (0, .ref (xo_t g)), (1, .long b)] := hl
              refine lv_goto (tgt := 8) hx hb dA_leadersOn_75 (by decide) ?_
              rw [nI_up (by omega)] at ex25
              subst ex25 ex22
              simp only [ld_lp, ld_v, ld_g, ld_w, if_true, if_pos hc6, if_pos hc23] at K
              exact ih _ _ ls (lv_sub hl [0, 2, 3, 4, 5] rfl) (by omega) K
            · exact absurd ex22.symm hc24
          · refine lv_iload hx hb dA_leadersOn_45 (lv_at hl 0 rfl) ?_
            refine jt_topi (fun x26 ex26 => ?_)
            refine lv_istore_n (lv' := [(3, .int x26), (6, .int x22), (5, .int (nI (6 - (n + 1)))), (4, .int w), (0, .ref (xo_t g)), (1, .long b)]) hx hb dA_leadersOn_47 rfl hl (by decide) rfl (fun ls hl => ?_)
            refine lv_iconst (v := 0) hx hb dA_leadersOn_48 (by decide) ?_
            refine jt_topi (fun x27 ex27 => ?_)
            refine lv_istore (lv' := [(4, .int x27), (3, .int x26), (6, .int x22), (5, .int (nI (6 - (n + 1)))), (0, .ref (xo_t g)), (1, .long b)]) hx hb dA_leadersOn_49 hl (by decide) rfl (fun ls hl => ?_)
            refine lv_iload hx hb dA_leadersOn_51 (lv_at hl 2 rfl) ?_
            refine lv_iconst (v := (-1)) hx hb dA_leadersOn_53 (by decide) ?_
            refine lv_icmp_eq (tgt := 72) hx hb dA_leadersOn_54 (by decide) (fun hc28 => ?_) (fun hc28 => ?_)
            · refine jv_iinc (a := 1) hx hb dA_leadersOn_72 hl (k := 3) rfl (by decide) (by decide) (fun x29 ex29 ls hl => ?_)
              have hl : lv_has ls 7 [(5, .int x29), (4, .int x27), (3, .int x26), (6, .int x22), (0, .ref (xo_t g)), (1, .long b)] := hl
              refine lv_goto (tgt := 8) hx hb dA_leadersOn_75 (by decide) ?_
              rw [nI_up (by omega)] at ex29
              subst ex29 ex27 ex26 ex22
              simp only [ld_lp, ld_v, ld_g, ld_w, if_true, if_pos hc6, if_neg hc23] at K
              exact ih _ _ ls (lv_sub hl [0, 2, 1, 4, 5] rfl) (by omega) K
            · exact absurd ex22.symm hc28
  refine hloop 6 x1 x2 ls (by have h9 := lv_sub hl [0, 2, 1, 3, 4] rfl; subst ex3; exact h9) (by decide) (fun ls hl => ?_)
  clear hloop
  obtain ⟨y30, ey30⟩ : ∃ z, (ld_lp T b 6 x1 x2) = z := ⟨_, rfl⟩
  rw [ey30] at hl
  refine lv_iload hx hb dA_leadersOn_78 (lv_at hl 0 rfl) ?_
  exact pu_iret hx hb hr hlk dA_leadersOn_80 (by subst ey30 ex3 ex2 ex1; rfl)
end
section
set_option maxHeartbeats 4000000 in
set_option maxRecDepth 100000 in
theorem cA_countBoards_0 (l : Launch) (g : xo_E) (T : Nat → Int64) (dk : Nat → Int32) (dn : Int32) (k : Int32) (w : Int32) (b : Int64) (f : Int64)  : pu_M l yA_countBoards bA_countBoards 14 (some .int) 6 [.ref (xo_t g), .int k, .int w, .long b, .long f, .int (nI 0)] (xo_F g T dk dn) (.int (g_cb T k w 0 b f)) := by
  refine Met.ofW (cc := bA_countBoards) (maxL := 14) (ret := (some .int)) (by decide) rfl ?_
  intro p e s m args below meth c s₁ BB hml hv
  obtain ⟨rfl, hB⟩ := hv
  have hx := BB.exec
  have hb := BB.bytes
  have hr := BB.returns
  have hlk := BB.notSynchronized
  have hts := atoms_spec (ws := wd yA_countBoards bA_countBoards 14 (some .int)) BB.pre
  have hown : s.vm.findClass "HandTables" = some m.cls := findClass_of_methodNamed BB.named
  have hS : CallFix p m c bA_countBoards 14 s _ (wd yA_countBoards bA_countBoards 14 (some .int)) "HandTables" := ⟨hx, hb, hml, hown, hts⟩
  obtain ⟨hTa, hEx, hP, hK⟩ := id hB
  obtain ⟨⟨t1, hT1⟩, ⟨t2, hT2⟩, ⟨t3, hT3⟩, ⟨t4, hT4⟩⟩ := id hTa
  have hl := lv_entry ([.ref (xo_t g), .int k, .int w, .long b, .long f, .int (nI 0)]) (n := 14) (Nat.le_of_ble_eq_true rfl)
  rw [lg_entry_eq]
  generalize (lg_sl ([.ref (xo_t g), .int k, .int w, .long b, .long f, .int (nI 0)]) ++ List.replicate (14 - (lg_sl ([.ref (xo_t g), .int k, .int w, .long b, .long f, .int (nI 0)])).length) Slot.unset).toArray = ls at hl ⊢
  have hl : lv_has ls 14 [(0, .ref (xo_t g)), (1, .int k), (2, .int w), (3, .long b), (5, .long f), (7, .int (nI 0))] := hl
  refine lv_iload hx hb dA_countBoards_0 (lv_at hl 5 rfl) ?_
  refine lv_if_gt (tgt := 24) hx hb dA_countBoards_2 (by decide) (fun hc1 => ?_) (fun hc1 => ?_)
  · exact absurd hc1 (by decide)
  · refine lv_iload_n hx hb dA_countBoards_5 rfl (lv_at hl 1 rfl) ?_
    refine lv_iload_n hx hb dA_countBoards_6 rfl (lv_at hl 2 rfl) ?_
    refine lv_aload_n hx hb dA_countBoards_7 rfl (lv_at hl 0 rfl) ?_
    refine lv_lload_n hx hb dA_countBoards_8 rfl (lv_at hl 3 rfl) ?_
    refine pu_S (cA_leadersOn l g T dk dn _) rfl kA_A_leadersOn hS bl_xo hB rfl ⟨Nat.le_of_ble_eq_true rfl, Nat.le_of_ble_eq_true rfl⟩ hl.1 rfl (Nat.le_of_ble_eq_true rfl) ⟨Nat.zero_le _, Nat.zero_le _⟩ dA_countBoards_9 ?_
    refine pu_S (cA_isOutcome l _ _ _) rfl kA_A_isOutcome hS bl_T trivial rfl ⟨Nat.le_of_ble_eq_true rfl, Nat.le_of_ble_eq_true rfl⟩ hl.1 rfl (Nat.le_of_ble_eq_true rfl) ⟨Nat.zero_le _, Nat.zero_le _⟩ dA_countBoards_12 ?_
    refine lv_if_eq (tgt := 22) hx hb dA_countBoards_15 (by decide) (fun hc2 => ?_) (fun hc2 => ?_)
    · refine lv_iconst (v := 0) hx hb dA_countBoards_22 (by decide) ?_
      exact pu_iret hx hb hr hlk dA_countBoards_23 (by first | contradiction | ((try simp only [g_cb, if_pos hc2]) <;> rfl))
    · refine lv_iconst (v := 1) hx hb dA_countBoards_18 (by decide) ?_
      refine lv_goto (tgt := 23) hx hb dA_countBoards_19 (by decide) ?_
      exact pu_iret hx hb hr hlk dA_countBoards_23 (by first | contradiction | ((try simp only [g_cb, if_neg hc2]) <;> rfl))
set_option maxHeartbeats 4000000 in
set_option maxRecDepth 100000 in
theorem cA_countBoards_1 (l : Launch) (g : xo_E) (T : Nat → Int64) (dk : Nat → Int32) (dn : Int32) (k : Int32) (w : Int32) (b : Int64) (f : Int64)  : pu_M l yA_countBoards bA_countBoards 14 (some .int) 7 [.ref (xo_t g), .int k, .int w, .long b, .long f, .int (nI 1)] (xo_F g T dk dn) (.int (g_cb T k w 1 b f)) := by
  refine Met.ofW (cc := bA_countBoards) (maxL := 14) (ret := (some .int)) (by decide) rfl ?_
  intro p e s m args below meth c s₁ BB hml hv
  obtain ⟨rfl, hB⟩ := hv
  have hx := BB.exec
  have hb := BB.bytes
  have hr := BB.returns
  have hlk := BB.notSynchronized
  have hts := atoms_spec (ws := wd yA_countBoards bA_countBoards 14 (some .int)) BB.pre
  have hown : s.vm.findClass "HandTables" = some m.cls := findClass_of_methodNamed BB.named
  have hS : CallFix p m c bA_countBoards 14 s _ (wd yA_countBoards bA_countBoards 14 (some .int)) "HandTables" := ⟨hx, hb, hml, hown, hts⟩
  obtain ⟨hTa, hEx, hP, hK⟩ := id hB
  obtain ⟨⟨t1, hT1⟩, ⟨t2, hT2⟩, ⟨t3, hT3⟩, ⟨t4, hT4⟩⟩ := id hTa
  have hl := lv_entry ([.ref (xo_t g), .int k, .int w, .long b, .long f, .int (nI 1)]) (n := 14) (Nat.le_of_ble_eq_true rfl)
  rw [lg_entry_eq]
  generalize (lg_sl ([.ref (xo_t g), .int k, .int w, .long b, .long f, .int (nI 1)]) ++ List.replicate (14 - (lg_sl ([.ref (xo_t g), .int k, .int w, .long b, .long f, .int (nI 1)])).length) Slot.unset).toArray = ls at hl ⊢
  have hl : lv_has ls 14 [(0, .ref (xo_t g)), (1, .int k), (2, .int w), (3, .long b), (5, .long f), (7, .int (nI 1))] := hl
  refine lv_iload hx hb dA_countBoards_0 (lv_at hl 5 rfl) ?_
  refine lv_if_gt (tgt := 24) hx hb dA_countBoards_2 (by decide) (fun hc1 => ?_) (fun hc1 => ?_)
  · refine lv_iconst (v := 0) hx hb dA_countBoards_24 (by decide) ?_
    refine jt_topi (fun x2 ex2 => ?_)
    refine lv_istore (lv' := [(8, .int x2), (0, .ref (xo_t g)), (1, .int k), (2, .int w), (3, .long b), (5, .long f), (7, .int (nI 1))]) hx hb dA_countBoards_25 hl (by decide) rfl (fun ls hl => ?_)
    refine lv_lload hx hb dA_countBoards_27 (lv_at hl 5 rfl) ?_
    refine jt_topl (fun x3 ex3 => ?_)
    refine lv_lstore (lv' := [(9, .long x3), (8, .int x2), (0, .ref (xo_t g)), (1, .int k), (2, .int w), (3, .long b), (5, .long f), (7, .int (nI 1))]) hx hb dA_countBoards_29 hl (by decide) rfl (fun ls hl => ?_)
    refine lv_iconst (v := 0) hx hb dA_countBoards_31 (by decide) ?_
    refine jt_topi (fun x4 ex4 => ?_)
    refine lv_istore (lv' := [(11, .int x4), (9, .long x3), (8, .int x2), (0, .ref (xo_t g)), (1, .int k), (2, .int w), (3, .long b), (5, .long f), (7, .int (nI 1))]) hx hb dA_countBoards_32 hl (by decide) rfl (fun ls hl => ?_)
    have hloop : ∀ (n : Nat) (a : Int32) (r : Int64) (ls : Array Slot), lv_has ls 14 [(11, .int (nI (52 - n))), (8, .int a), (9, .long r), (0, .ref (xo_t g)), (1, .int k), (2, .int w), (3, .long b), (7, .int (nI 1))] → (n ≤ 52) → (∀ ls : Array Slot, lv_has ls 14 [(8, .int (cb_lp (g_cb T k w 0) b n a r))] → W p l e (headSpec (wd yA_countBoards bA_countBoards 14 (some .int)) (rmD 7 0 0)).room s m ([.ref (xo_t g), .int k, .int w, .long b, .long f, .int (nI 1)]).toArray below meth c s.heap [] 0 0 (MQ below (pu_Q (.int (g_cb T k w 1 b f))) ([.ref (xo_t g), .int k, .int w, .long b, .long f, .int (nI 1)]).toArray s 0 0 (fun _ => False)) (F0 m 95 ls [])) → W p l e (headSpec (wd yA_countBoards bA_countBoards 14 (some .int)) (rmD 7 0 0)).room s m ([.ref (xo_t g), .int k, .int w, .long b, .long f, .int (nI 1)]).toArray below meth c s.heap [] 0 0 (MQ below (pu_Q (.int (g_cb T k w 1 b f))) ([.ref (xo_t g), .int k, .int w, .long b, .long f, .int (nI 1)]).toArray s 0 0 (fun _ => False)) (F0 m 34 ls []) := by
      intro n
      induction n with
      | zero =>
        intro a r ls hl hn K
        refine lv_iload hx hb dA_countBoards_34 (lv_at hl 0 rfl) ?_
        refine lv_bipush (v := 52) hx hb dA_countBoards_36 (by decide) ?_
        refine lv_icmp_ge (tgt := 95) hx hb dA_countBoards_38 (by decide) (fun hc5 => ?_) (fun hc5 => ?_)
        · simp only [cb_lp] at K
          exact K _ (lv_sub hl [1] rfl)
        · exact absurd (by decide) hc5
      | succ n ih =>
        intro a r ls hl hn K
        refine lv_iload hx hb dA_countBoards_34 (lv_at hl 0 rfl) ?_
        refine lv_bipush (v := 52) hx hb dA_countBoards_36 (by decide) ?_
        refine lv_icmp_ge (tgt := 95) hx hb dA_countBoards_38 (by decide) (fun hc6 => ?_) (fun hc6 => ?_)
        · exact absurd hc6 (nI_ge (b := 52) (by omega) (by decide))
        · refine lv_lload hx hb dA_countBoards_41 (lv_at hl 2 rfl) ?_
          refine lv_lconst (v := 1) hx hb dA_countBoards_43 (by decide) ?_
          refine lv_iload hx hb dA_countBoards_44 (lv_at hl 0 rfl) ?_
          refine jv_lshl hx hb dA_countBoards_46 ?_
          refine lv_land hx hb dA_countBoards_47 ?_
          refine jt_topl (fun x7 ex7 => ?_)
          refine lv_lstore (lv' := [(12, .long x7), (11, .int (nI (52 - (n + 1)))), (8, .int a), (9, .long r), (0, .ref (xo_t g)), (1, .int k), (2, .int w), (3, .long b), (7, .int (nI 1))]) hx hb dA_countBoards_48 hl (by decide) rfl (fun ls hl => ?_)
          refine lv_lload hx hb dA_countBoards_50 (lv_at hl 0 rfl) ?_
          refine lv_lconst (v := 0) hx hb dA_countBoards_52 (by decide) ?_
          refine jv_lceq (tgt := 89) hx hb dA_countBoards_53 dA_countBoards_54 (by decide) (fun hc8 => ?_) (fun hc8 => ?_)
          · refine jv_iinc (a := 1) hx hb dA_countBoards_89 hl (k := 1) rfl (by decide) (by decide) (fun x9 ex9 ls hl => ?_)
            have hl : lv_has ls 14 [(11, .int x9), (12, .long x7), (8, .int a), (9, .long r), (0, .ref (xo_t g)), (1, .int k), (2, .int w), (3, .long b), (7, .int (nI 1))] := hl
            refine lv_goto (tgt := 34) hx hb dA_countBoards_92 (by decide) ?_
            rw [nI_up (by omega)] at ex9
            subst ex9 ex7
            simp only [cb_lp, if_pos hc8] at K
            exact ih _ _ ls (lv_sub hl [0, 2, 3, 4, 5, 6, 7, 8] rfl) (by omega) K
          · refine lv_lload hx hb dA_countBoards_57 (lv_at hl 3 rfl) ?_
            refine lv_lload hx hb dA_countBoards_59 (lv_at hl 0 rfl) ?_
            refine lv_ldc2 (v := (-1)) hx hb hown (hts _ (wd_in (gw_mem 183 rfl rfl))) dA_countBoards_61 ?_
            refine lv_lxor hx hb dA_countBoards_64 ?_
            refine lv_land hx hb dA_countBoards_65 ?_
            refine jt_topl (fun x10 ex10 => ?_)
            refine lv_lstore (lv' := [(9, .long x10), (12, .long x7), (11, .int (nI (52 - (n + 1)))), (8, .int a), (0, .ref (xo_t g)), (1, .int k), (2, .int w), (3, .long b), (7, .int (nI 1))]) hx hb dA_countBoards_66 hl (by decide) rfl (fun ls hl => ?_)
            refine lv_iload hx hb dA_countBoards_68 (lv_at hl 3 rfl) ?_
            refine lv_aload_n hx hb dA_countBoards_70 rfl (lv_at hl 4 rfl) ?_
            refine lv_iload_n hx hb dA_countBoards_71 rfl (lv_at hl 5 rfl) ?_
            refine lv_iload_n hx hb dA_countBoards_72 rfl (lv_at hl 6 rfl) ?_
            refine lv_lload_n hx hb dA_countBoards_73 rfl (lv_at hl 7 rfl) ?_
            refine lv_lload hx hb dA_countBoards_74 (lv_at hl 1 rfl) ?_
            refine lv_lor hx hb dA_countBoards_76 ?_
            refine lv_lload hx hb dA_countBoards_77 (lv_at hl 0 rfl) ?_
            refine lv_iload hx hb dA_countBoards_79 (lv_at hl 8 rfl) ?_
            refine lv_iconst (v := 1) hx hb dA_countBoards_81 (by decide) ?_
            refine lv_isub hx hb dA_countBoards_82 ?_
            refine lv_topi (fun xm exm => ?_)
            have exm : xm = nI 0 := exm.trans (by decide)
            subst exm
            refine pu_S (cA_countBoards_0 l g T dk dn _ _ _ _) rfl kA_A_countBoards hS bl_xo hB rfl ⟨Nat.le_of_ble_eq_true rfl, Nat.le_of_ble_eq_true rfl⟩ hl.1 rfl (Nat.le_of_ble_eq_true rfl) ⟨Nat.zero_le _, Nat.zero_le _⟩ dA_countBoards_83 ?_
            refine lv_iadd hx hb dA_countBoards_86 ?_
            refine jt_topi (fun x11 ex11 => ?_)
            refine lv_istore (lv' := [(8, .int x11), (9, .long x10), (12, .long x7), (11, .int (nI (52 - (n + 1)))), (0, .ref (xo_t g)), (1, .int k), (2, .int w), (3, .long b), (7, .int (nI 1))]) hx hb dA_countBoards_87 hl (by decide) rfl (fun ls hl => ?_)
            refine jv_iinc (a := 1) hx hb dA_countBoards_89 hl (k := 3) rfl (by decide) (by decide) (fun x12 ex12 ls hl => ?_)
            have hl : lv_has ls 14 [(11, .int x12), (8, .int x11), (9, .long x10), (12, .long x7), (0, .ref (xo_t g)), (1, .int k), (2, .int w), (3, .long b), (7, .int (nI 1))] := hl
            refine lv_goto (tgt := 34) hx hb dA_countBoards_92 (by decide) ?_
            rw [nI_up (by omega)] at ex12
            subst ex12 ex11 ex10 ex7
            simp only [cb_lp, if_neg hc8] at K
            exact ih _ _ ls (lv_sub hl [0, 1, 2, 4, 5, 6, 7, 8] rfl) (by omega) K
    refine hloop 52 x2 x3 ls (by have h9 := lv_sub hl [0, 2, 1, 3, 4, 5, 6, 8] rfl; subst ex4; exact h9) (by decide) (fun ls hl => ?_)
    clear hloop
    obtain ⟨y13, ey13⟩ : ∃ z, (cb_lp (g_cb T k w 0) b 52 x2 x3) = z := ⟨_, rfl⟩
    rw [ey13] at hl
    refine lv_iload hx hb dA_countBoards_95 (lv_at hl 0 rfl) ?_
    exact pu_iret hx hb hr hlk dA_countBoards_97 (by subst ey13 ex4 ex3 ex2; rfl)
  · exact absurd (by decide) hc1
set_option maxHeartbeats 4000000 in
set_option maxRecDepth 100000 in
theorem cA_countBoards_2 (l : Launch) (g : xo_E) (T : Nat → Int64) (dk : Nat → Int32) (dn : Int32) (k : Int32) (w : Int32) (b : Int64) (f : Int64)  : pu_M l yA_countBoards bA_countBoards 14 (some .int) 8 [.ref (xo_t g), .int k, .int w, .long b, .long f, .int (nI 2)] (xo_F g T dk dn) (.int (g_cb T k w 2 b f)) := by
  refine Met.ofW (cc := bA_countBoards) (maxL := 14) (ret := (some .int)) (by decide) rfl ?_
  intro p e s m args below meth c s₁ BB hml hv
  obtain ⟨rfl, hB⟩ := hv
  have hx := BB.exec
  have hb := BB.bytes
  have hr := BB.returns
  have hlk := BB.notSynchronized
  have hts := atoms_spec (ws := wd yA_countBoards bA_countBoards 14 (some .int)) BB.pre
  have hown : s.vm.findClass "HandTables" = some m.cls := findClass_of_methodNamed BB.named
  have hS : CallFix p m c bA_countBoards 14 s _ (wd yA_countBoards bA_countBoards 14 (some .int)) "HandTables" := ⟨hx, hb, hml, hown, hts⟩
  obtain ⟨hTa, hEx, hP, hK⟩ := id hB
  obtain ⟨⟨t1, hT1⟩, ⟨t2, hT2⟩, ⟨t3, hT3⟩, ⟨t4, hT4⟩⟩ := id hTa
  have hl := lv_entry ([.ref (xo_t g), .int k, .int w, .long b, .long f, .int (nI 2)]) (n := 14) (Nat.le_of_ble_eq_true rfl)
  rw [lg_entry_eq]
  generalize (lg_sl ([.ref (xo_t g), .int k, .int w, .long b, .long f, .int (nI 2)]) ++ List.replicate (14 - (lg_sl ([.ref (xo_t g), .int k, .int w, .long b, .long f, .int (nI 2)])).length) Slot.unset).toArray = ls at hl ⊢
  have hl : lv_has ls 14 [(0, .ref (xo_t g)), (1, .int k), (2, .int w), (3, .long b), (5, .long f), (7, .int (nI 2))] := hl
  refine lv_iload hx hb dA_countBoards_0 (lv_at hl 5 rfl) ?_
  refine lv_if_gt (tgt := 24) hx hb dA_countBoards_2 (by decide) (fun hc1 => ?_) (fun hc1 => ?_)
  · refine lv_iconst (v := 0) hx hb dA_countBoards_24 (by decide) ?_
    refine jt_topi (fun x2 ex2 => ?_)
    refine lv_istore (lv' := [(8, .int x2), (0, .ref (xo_t g)), (1, .int k), (2, .int w), (3, .long b), (5, .long f), (7, .int (nI 2))]) hx hb dA_countBoards_25 hl (by decide) rfl (fun ls hl => ?_)
    refine lv_lload hx hb dA_countBoards_27 (lv_at hl 5 rfl) ?_
    refine jt_topl (fun x3 ex3 => ?_)
    refine lv_lstore (lv' := [(9, .long x3), (8, .int x2), (0, .ref (xo_t g)), (1, .int k), (2, .int w), (3, .long b), (5, .long f), (7, .int (nI 2))]) hx hb dA_countBoards_29 hl (by decide) rfl (fun ls hl => ?_)
    refine lv_iconst (v := 0) hx hb dA_countBoards_31 (by decide) ?_
    refine jt_topi (fun x4 ex4 => ?_)
    refine lv_istore (lv' := [(11, .int x4), (9, .long x3), (8, .int x2), (0, .ref (xo_t g)), (1, .int k), (2, .int w), (3, .long b), (5, .long f), (7, .int (nI 2))]) hx hb dA_countBoards_32 hl (by decide) rfl (fun ls hl => ?_)
    have hloop : ∀ (n : Nat) (a : Int32) (r : Int64) (ls : Array Slot), lv_has ls 14 [(11, .int (nI (52 - n))), (8, .int a), (9, .long r), (0, .ref (xo_t g)), (1, .int k), (2, .int w), (3, .long b), (7, .int (nI 2))] → (n ≤ 52) → (∀ ls : Array Slot, lv_has ls 14 [(8, .int (cb_lp (g_cb T k w 1) b n a r))] → W p l e (headSpec (wd yA_countBoards bA_countBoards 14 (some .int)) (rmD 8 0 0)).room s m ([.ref (xo_t g), .int k, .int w, .long b, .long f, .int (nI 2)]).toArray below meth c s.heap [] 0 0 (MQ below (pu_Q (.int (g_cb T k w 2 b f))) ([.ref (xo_t g), .int k, .int w, .long b, .long f, .int (nI 2)]).toArray s 0 0 (fun _ => False)) (F0 m 95 ls [])) → W p l e (headSpec (wd yA_countBoards bA_countBoards 14 (some .int)) (rmD 8 0 0)).room s m ([.ref (xo_t g), .int k, .int w, .long b, .long f, .int (nI 2)]).toArray below meth c s.heap [] 0 0 (MQ below (pu_Q (.int (g_cb T k w 2 b f))) ([.ref (xo_t g), .int k, .int w, .long b, .long f, .int (nI 2)]).toArray s 0 0 (fun _ => False)) (F0 m 34 ls []) := by
      intro n
      induction n with
      | zero =>
        intro a r ls hl hn K
        refine lv_iload hx hb dA_countBoards_34 (lv_at hl 0 rfl) ?_
        refine lv_bipush (v := 52) hx hb dA_countBoards_36 (by decide) ?_
        refine lv_icmp_ge (tgt := 95) hx hb dA_countBoards_38 (by decide) (fun hc5 => ?_) (fun hc5 => ?_)
        · simp only [cb_lp] at K
          exact K _ (lv_sub hl [1] rfl)
        · exact absurd (by decide) hc5
      | succ n ih =>
        intro a r ls hl hn K
        refine lv_iload hx hb dA_countBoards_34 (lv_at hl 0 rfl) ?_
        refine lv_bipush (v := 52) hx hb dA_countBoards_36 (by decide) ?_
        refine lv_icmp_ge (tgt := 95) hx hb dA_countBoards_38 (by decide) (fun hc6 => ?_) (fun hc6 => ?_)
        · exact absurd hc6 (nI_ge (b := 52) (by omega) (by decide))
        · refine lv_lload hx hb dA_countBoards_41 (lv_at hl 2 rfl) ?_
          refine lv_lconst (v := 1) hx hb dA_countBoards_43 (by decide) ?_
          refine lv_iload hx hb dA_countBoards_44 (lv_at hl 0 rfl) ?_
          refine jv_lshl hx hb dA_countBoards_46 ?_
          refine lv_land hx hb dA_countBoards_47 ?_
          refine jt_topl (fun x7 ex7 => ?_)
          refine lv_lstore (lv' := [(12, .long x7), (11, .int (nI (52 - (n + 1)))), (8, .int a), (9, .long r), (0, .ref (xo_t g)), (1, .int k), (2, .int w), (3, .long b), (7, .int (nI 2))]) hx hb dA_countBoards_48 hl (by decide) rfl (fun ls hl => ?_)
          refine lv_lload hx hb dA_countBoards_50 (lv_at hl 0 rfl) ?_
          refine lv_lconst (v := 0) hx hb dA_countBoards_52 (by decide) ?_
          refine jv_lceq (tgt := 89) hx hb dA_countBoards_53 dA_countBoards_54 (by decide) (fun hc8 => ?_) (fun hc8 => ?_)
          · refine jv_iinc (a := 1) hx hb dA_countBoards_89 hl (k := 1) rfl (by decide) (by decide) (fun x9 ex9 ls hl => ?_)
            have hl : lv_has ls 14 [(11, .int x9), (12, .long x7), (8, .int a), (9, .long r), (0, .ref (xo_t g)), (1, .int k), (2, .int w), (3, .long b), (7, .int (nI 2))] := hl
            refine lv_goto (tgt := 34) hx hb dA_countBoards_92 (by decide) ?_
            rw [nI_up (by omega)] at ex9
            subst ex9 ex7
            simp only [cb_lp, if_pos hc8] at K
            exact ih _ _ ls (lv_sub hl [0, 2, 3, 4, 5, 6, 7, 8] rfl) (by omega) K
          · refine lv_lload hx hb dA_countBoards_57 (lv_at hl 3 rfl) ?_
            refine lv_lload hx hb dA_countBoards_59 (lv_at hl 0 rfl) ?_
            refine lv_ldc2 (v := (-1)) hx hb hown (hts _ (wd_in (gw_mem 183 rfl rfl))) dA_countBoards_61 ?_
            refine lv_lxor hx hb dA_countBoards_64 ?_
            refine lv_land hx hb dA_countBoards_65 ?_
            refine jt_topl (fun x10 ex10 => ?_)
            refine lv_lstore (lv' := [(9, .long x10), (12, .long x7), (11, .int (nI (52 - (n + 1)))), (8, .int a), (0, .ref (xo_t g)), (1, .int k), (2, .int w), (3, .long b), (7, .int (nI 2))]) hx hb dA_countBoards_66 hl (by decide) rfl (fun ls hl => ?_)
            refine lv_iload hx hb dA_countBoards_68 (lv_at hl 3 rfl) ?_
            refine lv_aload_n hx hb dA_countBoards_70 rfl (lv_at hl 4 rfl) ?_
            refine lv_iload_n hx hb dA_countBoards_71 rfl (lv_at hl 5 rfl) ?_
            refine lv_iload_n hx hb dA_countBoards_72 rfl (lv_at hl 6 rfl) ?_
            refine lv_lload_n hx hb dA_countBoards_73 rfl (lv_at hl 7 rfl) ?_
            refine lv_lload hx hb dA_countBoards_74 (lv_at hl 1 rfl) ?_
            refine lv_lor hx hb dA_countBoards_76 ?_
            refine lv_lload hx hb dA_countBoards_77 (lv_at hl 0 rfl) ?_
            refine lv_iload hx hb dA_countBoards_79 (lv_at hl 8 rfl) ?_
            refine lv_iconst (v := 1) hx hb dA_countBoards_81 (by decide) ?_
            refine lv_isub hx hb dA_countBoards_82 ?_
            refine lv_topi (fun xm exm => ?_)
            have exm : xm = nI 1 := exm.trans (by decide)
            subst exm
            refine pu_S (cA_countBoards_1 l g T dk dn _ _ _ _) rfl kA_A_countBoards hS bl_xo hB rfl ⟨Nat.le_of_ble_eq_true rfl, Nat.le_of_ble_eq_true rfl⟩ hl.1 rfl (Nat.le_of_ble_eq_true rfl) ⟨Nat.zero_le _, Nat.zero_le _⟩ dA_countBoards_83 ?_
            refine lv_iadd hx hb dA_countBoards_86 ?_
            refine jt_topi (fun x11 ex11 => ?_)
            refine lv_istore (lv' := [(8, .int x11), (9, .long x10), (12, .long x7), (11, .int (nI (52 - (n + 1)))), (0, .ref (xo_t g)), (1, .int k), (2, .int w), (3, .long b), (7, .int (nI 2))]) hx hb dA_countBoards_87 hl (by decide) rfl (fun ls hl => ?_)
            refine jv_iinc (a := 1) hx hb dA_countBoards_89 hl (k := 3) rfl (by decide) (by decide) (fun x12 ex12 ls hl => ?_)
            have hl : lv_has ls 14 [(11, .int x12), (8, .int x11), (9, .long x10), (12, .long x7), (0, .ref (xo_t g)), (1, .int k), (2, .int w), (3, .long b), (7, .int (nI 2))] := hl
            refine lv_goto (tgt := 34) hx hb dA_countBoards_92 (by decide) ?_
            rw [nI_up (by omega)] at ex12
            subst ex12 ex11 ex10 ex7
            simp only [cb_lp, if_neg hc8] at K
            exact ih _ _ ls (lv_sub hl [0, 1, 2, 4, 5, 6, 7, 8] rfl) (by omega) K
    refine hloop 52 x2 x3 ls (by have h9 := lv_sub hl [0, 2, 1, 3, 4, 5, 6, 8] rfl; subst ex4; exact h9) (by decide) (fun ls hl => ?_)
    clear hloop
    obtain ⟨y13, ey13⟩ : ∃ z, (cb_lp (g_cb T k w 1) b 52 x2 x3) = z := ⟨_, rfl⟩
    rw [ey13] at hl
    refine lv_iload hx hb dA_countBoards_95 (lv_at hl 0 rfl) ?_
    exact pu_iret hx hb hr hlk dA_countBoards_97 (by subst ey13 ex4 ex3 ex2; rfl)
  · exact absurd (by decide) hc1
end
section
/-! the public questions -/
theorem ca_le (v : Int32) : ∀ n, ∃ j, j ≤ n ∧ c_lp v n = nI j
  | 0 => ⟨0, by omega, rfl⟩
  | n + 1 => by
    unfold c_lp
    split
    · exact ⟨n + 1, by omega, rfl⟩
    · obtain ⟨j, h, e⟩ := ca_le v n
      exact ⟨j, by omega, e⟩
theorem ca_in (v : Int32) {N : Nat} (h : 8 < N) (hN : N < 2 ^ 31) : vp_in (f_cat v) N := by
  obtain ⟨j, hj, e⟩ := ca_le v 8
  show vp_in (c_lp v 8) N
  rw [e]
  exact vp_in_nI (by omega) hN
theorem fr_in {k : Int32} (h1 : ¬ k < 0) (h2 : k ≤ 9) : vp_in k 10 := by
  obtain ⟨j, hj, e⟩ := nI_of2 (M := 9) (n := 9) rfl h1 h2
  rw [e]
  exact vp_in_nI (by omega) (by decide)
theorem se_in {k : Int32} (h : ¬ q_seat k) : vp_in k 7 := by
  have h1 : ¬ k < 0 := fun z => h (Or.inl z)
  have h2 : k < 6 := Classical.not_not.mp fun z => h (Or.inr z)
  obtain ⟨j, hj, e⟩ := nI_of2 (M := 6) (n := 6) rfl h1 (Int32.le_of_lt h2)
  rw [e]
  exact vp_in_nI (by omega) (by decide)
def be_lp (x : Int64) (v : Int32) : Nat → Int64 → Int64
  | 0, y => y
  | n + 1, y => if f_five y v = 0 then be_lp x v n ((y - 1) &&& x) else y
def ou_lp (T : Nat → Int64) (f : Int64) (k : Int32) : Nat → Int64 → Int64
  | 0, a => a
  | n + 1, a => if f &&& jl 1 (nI (52 - (n + 1))) = 0 then ou_lp T f k n a
    else if g_lead T (T (6 : Int32).toNatClampNeg ||| (f &&& jl 1 (nI (52 - (n + 1))))) = jli 1 k then ou_lp T f k n (a ||| (f &&& jl 1 (nI (52 - (n + 1))))) else ou_lp T f k n a
def g_outs (T : Nat → Int64) (k : Int32) : Int64 := ou_lp T (g_free T) k 52 0
def g_best (x : Int64) : Int64 := be_lp x (f_valueOf x) 128 x
def g_share (w k p : Int32) : Int32 :=
  if f_bi w = 0 then 0 else if w &&& jli 1 k = 0 then 0 else p / f_bi w + (if jrem p (f_bi w) ≤ f_bi (w &&& (jli 1 k - 1)) then 0 else 1)
def g_boards (m f : Int32) : Int32 := if m = 0 then 1 else if m = 1 then f else f * (f - 1) / 2
abbrev r_i (v : Int32) : String ⊕ Option Value := .inr (some (.int v))
abbrev r_l (v : Int64) : String ⊕ Option Value := .inr (some (.long v))
set_option maxHeartbeats 4000000 in
set_option maxRecDepth 100000 in
theorem cA_value (l : Launch) (g : xo_E) (T : Nat → Int64) (dk : Nat → Int32) (dn : Int32) (x : Int64) (hst : l.stackTraces = false)  : px_M l yA_value bA_value 3 (some .int) 7 [.ref (xo_a g), .long x] (xo_F g T dk dn) (if q_hand x then .inl ex_IA else r_i (f_valueOf x)) := by
  refine vx_ofW (cc := bA_value) (maxL := 3) (ret := (some .int)) (by decide) rfl ?_
  intro p e s m args below meth c s₁ BB hml hout hv
  obtain ⟨rfl, hB⟩ := hv
  have hx := BB.exec
  have hb := BB.bytes
  have hr := BB.returns
  have hlk := BB.notSynchronized
  have hts := atoms_spec (ws := wd yA_value bA_value 3 (some .int)) BB.pre
  have hown : s.vm.findClass "HandTables" = some m.cls := findClass_of_methodNamed BB.named
  have hS : CallFix p m c bA_value 3 s _ (wd yA_value bA_value 3 (some .int)) "HandTables" := ⟨hx, hb, hml, hown, hts⟩
  obtain ⟨hTa, hEx, hP, hK⟩ := id hB
  obtain ⟨⟨t1, hT1⟩, ⟨t2, hT2⟩, ⟨t3, hT3⟩, ⟨t4, hT4⟩⟩ := id hTa
  have hl := lv_entry ([.ref (xo_a g), .long x]) (n := 3) (Nat.le_of_ble_eq_true rfl)
  rw [lg_entry_eq]
  generalize (lg_sl ([.ref (xo_a g), .long x]) ++ List.replicate (3 - (lg_sl ([.ref (xo_a g), .long x])).length) Slot.unset).toArray = ls at hl ⊢
  have hl : lv_has ls 3 [(0, .ref (xo_a g)), (1, .long x)] := hl
  refine lv_lload_n hx hb dA_value_0 rfl (lv_at hl 1 rfl) ?_
  refine px_S (cA_requireHand l _ hst) rfl kA_A_requireHand hS bl_ex hEx ⟨Nat.le_of_ble_eq_true rfl, Nat.le_of_ble_eq_true rfl⟩ hl.1 rfl (Nat.le_of_ble_eq_true rfl) ⟨Nat.le_of_ble_eq_true rfl, Nat.le_of_ble_eq_true rfl⟩ dA_value_1 hout hlk (fun E h9 => ?_) (fun v hv => ?_)
  · obtain ⟨hc1, rfl⟩ := ri_then h9
    (try simp only [if_pos hc1]) <;> rfl
  obtain ⟨hc1, rfl⟩ := ri_else hv
  refine lv_lload_n hx hb dA_value_4 rfl (lv_at hl 1 rfl) ?_
  refine pu_S (cA_valueOf l _) rfl kA_A_valueOf hS bl_ta hTa rfl ⟨Nat.le_of_ble_eq_true rfl, Nat.le_of_ble_eq_true rfl⟩ hl.1 rfl (Nat.le_of_ble_eq_true rfl) ⟨Nat.zero_le _, Nat.zero_le _⟩ dA_value_5 ?_
  exact px_iret hx hb hr hlk dA_value_8 (by (try simp only [if_neg hc1]) <;> rfl)
set_option maxHeartbeats 4000000 in
set_option maxRecDepth 100000 in
theorem cA_category (l : Launch) (g : xo_E) (T : Nat → Int64) (dk : Nat → Int32) (dn : Int32) (x : Int64) (hst : l.stackTraces = false)  : px_M l yA_category bA_category 3 (some .int) 7 [.ref (xo_a g), .long x] (xo_F g T dk dn) (if q_hand x then .inl ex_IA else r_i (f_cat (f_valueOf x))) := by
  refine vx_ofW (cc := bA_category) (maxL := 3) (ret := (some .int)) (by decide) rfl ?_
  intro p e s m args below meth c s₁ BB hml hout hv
  obtain ⟨rfl, hB⟩ := hv
  have hx := BB.exec
  have hb := BB.bytes
  have hr := BB.returns
  have hlk := BB.notSynchronized
  have hts := atoms_spec (ws := wd yA_category bA_category 3 (some .int)) BB.pre
  have hown : s.vm.findClass "HandTables" = some m.cls := findClass_of_methodNamed BB.named
  have hS : CallFix p m c bA_category 3 s _ (wd yA_category bA_category 3 (some .int)) "HandTables" := ⟨hx, hb, hml, hown, hts⟩
  obtain ⟨hTa, hEx, hP, hK⟩ := id hB
  obtain ⟨⟨t1, hT1⟩, ⟨t2, hT2⟩, ⟨t3, hT3⟩, ⟨t4, hT4⟩⟩ := id hTa
  have hl := lv_entry ([.ref (xo_a g), .long x]) (n := 3) (Nat.le_of_ble_eq_true rfl)
  rw [lg_entry_eq]
  generalize (lg_sl ([.ref (xo_a g), .long x]) ++ List.replicate (3 - (lg_sl ([.ref (xo_a g), .long x])).length) Slot.unset).toArray = ls at hl ⊢
  have hl : lv_has ls 3 [(0, .ref (xo_a g)), (1, .long x)] := hl
  refine lv_lload_n hx hb dA_category_0 rfl (lv_at hl 1 rfl) ?_
  refine px_S (cA_requireHand l _ hst) rfl kA_A_requireHand hS bl_ex hEx ⟨Nat.le_of_ble_eq_true rfl, Nat.le_of_ble_eq_true rfl⟩ hl.1 rfl (Nat.le_of_ble_eq_true rfl) ⟨Nat.le_of_ble_eq_true rfl, Nat.le_of_ble_eq_true rfl⟩ dA_category_1 hout hlk (fun E h9 => ?_) (fun v hv => ?_)
  · obtain ⟨hc1, rfl⟩ := ri_then h9
    (try simp only [if_pos hc1]) <;> rfl
  obtain ⟨hc1, rfl⟩ := ri_else hv
  refine lv_lload_n hx hb dA_category_4 rfl (lv_at hl 1 rfl) ?_
  refine pu_S (cA_valueOf l _) rfl kA_A_valueOf hS bl_ta hTa rfl ⟨Nat.le_of_ble_eq_true rfl, Nat.le_of_ble_eq_true rfl⟩ hl.1 rfl (Nat.le_of_ble_eq_true rfl) ⟨Nat.zero_le _, Nat.zero_le _⟩ dA_category_5 ?_
  refine pu_S (cA_categoryOf l _) rfl kA_A_categoryOf hS bl_ta hTa rfl ⟨Nat.le_of_ble_eq_true rfl, Nat.le_of_ble_eq_true rfl⟩ hl.1 rfl (Nat.le_of_ble_eq_true rfl) ⟨Nat.zero_le _, Nat.zero_le _⟩ dA_category_8 ?_
  exact px_iret hx hb hr hlk dA_category_11 (by (try simp only [if_neg hc1]) <;> rfl)
set_option maxHeartbeats 4000000 in
set_option maxRecDepth 100000 in
theorem cA_best (l : Launch) (g : xo_E) (T : Nat → Int64) (dk : Nat → Int32) (dn : Int32) (x : Int64) (hst : l.stackTraces = false)  : px_M l yA_best bA_best 7 (some .long) 7 [.ref (xo_a g), .long x] (xo_F g T dk dn) (if q_hand x then .inl ex_IA else r_l (g_best x)) := by
  refine vx_ofW (cc := bA_best) (maxL := 7) (ret := (some .long)) (by decide) rfl ?_
  intro p e s m args below meth c s₁ BB hml hout hv
  obtain ⟨rfl, hB⟩ := hv
  have hx := BB.exec
  have hb := BB.bytes
  have hr := BB.returns
  have hlk := BB.notSynchronized
  have hts := atoms_spec (ws := wd yA_best bA_best 7 (some .long)) BB.pre
  have hown : s.vm.findClass "HandTables" = some m.cls := findClass_of_methodNamed BB.named
  have hS : CallFix p m c bA_best 7 s _ (wd yA_best bA_best 7 (some .long)) "HandTables" := ⟨hx, hb, hml, hown, hts⟩
  obtain ⟨hTa, hEx, hP, hK⟩ := id hB
  obtain ⟨⟨t1, hT1⟩, ⟨t2, hT2⟩, ⟨t3, hT3⟩, ⟨t4, hT4⟩⟩ := id hTa
  have hl := lv_entry ([.ref (xo_a g), .long x]) (n := 7) (Nat.le_of_ble_eq_true rfl)
  rw [lg_entry_eq]
  generalize (lg_sl ([.ref (xo_a g), .long x]) ++ List.replicate (7 - (lg_sl ([.ref (xo_a g), .long x])).length) Slot.unset).toArray = ls at hl ⊢
  have hl : lv_has ls 7 [(0, .ref (xo_a g)), (1, .long x)] := hl
  refine lv_lload_n hx hb dA_best_0 rfl (lv_at hl 1 rfl) ?_
  refine px_S (cA_requireHand l _ hst) rfl kA_A_requireHand hS bl_ex hEx ⟨Nat.le_of_ble_eq_true rfl, Nat.le_of_ble_eq_true rfl⟩ hl.1 rfl (Nat.le_of_ble_eq_true rfl) ⟨Nat.le_of_ble_eq_true rfl, Nat.le_of_ble_eq_true rfl⟩ dA_best_1 hout hlk (fun E h9 => ?_) (fun v hv => ?_)
  · obtain ⟨hc1, rfl⟩ := ri_then h9
    (try simp only [if_pos hc1]) <;> rfl
  obtain ⟨hc1, rfl⟩ := ri_else hv
  refine lv_lload_n hx hb dA_best_4 rfl (lv_at hl 1 rfl) ?_
  refine pu_S (cA_valueOf l _) rfl kA_A_valueOf hS bl_ta hTa rfl ⟨Nat.le_of_ble_eq_true rfl, Nat.le_of_ble_eq_true rfl⟩ hl.1 rfl (Nat.le_of_ble_eq_true rfl) ⟨Nat.zero_le _, Nat.zero_le _⟩ dA_best_5 ?_
  refine jt_topi (fun x2 ex2 => ?_)
  refine lv_istore_n (lv' := [(3, .int x2), (0, .ref (xo_a g)), (1, .long x)]) hx hb dA_best_8 rfl hl (by decide) rfl (fun ls hl => ?_)
  refine lv_lload_n hx hb dA_best_9 rfl (lv_at hl 2 rfl) ?_
  refine jt_topl (fun x3 ex3 => ?_)
  refine lv_lstore (lv' := [(4, .long x3), (3, .int x2), (0, .ref (xo_a g)), (1, .long x)]) hx hb dA_best_10 hl (by decide) rfl (fun ls hl => ?_)
  refine lv_iconst (v := 0) hx hb dA_best_12 (by decide) ?_
  refine jt_topi (fun x4 ex4 => ?_)
  refine lv_istore (lv' := [(6, .int x4), (4, .long x3), (3, .int x2), (0, .ref (xo_a g)), (1, .long x)]) hx hb dA_best_13 hl (by decide) rfl (fun ls hl => ?_)
  have hloop : ∀ (n : Nat) (y : Int64) (ls : Array Slot), lv_has ls 7 [(6, .int (nI (128 - n))), (4, .long y), (3, .int x2), (1, .long x)] → (n ≤ 128) → (∀ ls : Array Slot, lv_has ls 7 [(4, .long (be_lp x x2 n y))] → W p l e (headSpec (wd yA_best bA_best 7 (some .long)) (rmD 7 1 6)).room s m ([.ref (xo_a g), .long x]).toArray below meth c s.heap [] 0 0 (vx_MQ below (px_Q (if q_hand x then .inl ex_IA else r_l (g_best x))) (px_X (if q_hand x then .inl ex_IA else r_l (g_best x))) ([.ref (xo_a g), .long x]).toArray s 1 6 (fun _ => False)) (F0 m 46 ls [])) → W p l e (headSpec (wd yA_best bA_best 7 (some .long)) (rmD 7 1 6)).room s m ([.ref (xo_a g), .long x]).toArray below meth c s.heap [] 0 0 (vx_MQ below (px_Q (if q_hand x then .inl ex_IA else r_l (g_best x))) (px_X (if q_hand x then .inl ex_IA else r_l (g_best x))) ([.ref (xo_a g), .long x]).toArray s 1 6 (fun _ => False)) (F0 m 15 ls []) := by
    intro n
    induction n with
    | zero =>
      intro y ls hl hn K
      refine lv_iload hx hb dA_best_15 (lv_at hl 0 rfl) ?_
      refine lv_sipush (v := 128) hx hb dA_best_17 (by decide) ?_
      refine lv_icmp_ge (tgt := 46) hx hb dA_best_20 (by decide) (fun hc5 => ?_) (fun hc5 => ?_)
      · simp only [be_lp] at K
        exact K _ (lv_sub hl [1] rfl)
      · exact absurd (by decide) hc5
    | succ n ih =>
      intro y ls hl hn K
      refine lv_iload hx hb dA_best_15 (lv_at hl 0 rfl) ?_
      refine lv_sipush (v := 128) hx hb dA_best_17 (by decide) ?_
      refine lv_icmp_ge (tgt := 46) hx hb dA_best_20 (by decide) (fun hc6 => ?_) (fun hc6 => ?_)
      · exact absurd hc6 (nI_ge (b := 128) (by omega) (by decide))
      · refine lv_lload hx hb dA_best_23 (lv_at hl 1 rfl) ?_
        refine lv_iload_n hx hb dA_best_25 rfl (lv_at hl 2 rfl) ?_
        refine pu_S (cA_isFiveWorth l _ _) rfl kA_A_isFiveWorth hS bl_ta hTa rfl ⟨Nat.le_of_ble_eq_true rfl, Nat.le_of_ble_eq_true rfl⟩ hl.1 rfl (Nat.le_of_ble_eq_true rfl) ⟨Nat.zero_le _, Nat.zero_le _⟩ dA_best_26 ?_
        refine lv_if_ne (tgt := 46) hx hb dA_best_29 (by decide) (fun hc7 => ?_) (fun hc7 => ?_)
        · simp only [be_lp, if_neg hc7] at K
          exact K _ (lv_sub hl [1] rfl)
        · refine lv_lload hx hb dA_best_32 (lv_at hl 1 rfl) ?_
          refine lv_lconst (v := 1) hx hb dA_best_34 (by decide) ?_
          refine lv_lsub hx hb dA_best_35 ?_
          refine lv_lload_n hx hb dA_best_36 rfl (lv_at hl 3 rfl) ?_
          refine lv_land hx hb dA_best_37 ?_
          refine jt_topl (fun x8 ex8 => ?_)
          refine lv_lstore (lv' := [(4, .long x8), (6, .int (nI (128 - (n + 1)))), (3, .int x2), (1, .long x)]) hx hb dA_best_38 hl (by decide) rfl (fun ls hl => ?_)
          refine jv_iinc (a := 1) hx hb dA_best_40 hl (k := 1) rfl (by decide) (by decide) (fun x9 ex9 ls hl => ?_)
          have hl : lv_has ls 7 [(6, .int x9), (4, .long x8), (3, .int x2), (1, .long x)] := hl
          refine lv_goto (tgt := 15) hx hb dA_best_43 (by decide) ?_
          rw [nI_up (by omega)] at ex9
          subst ex9 ex8
          simp only [be_lp, if_pos hc7] at K
          exact ih _ ls (lv_sub hl [0, 1, 2, 3] rfl) (by omega) K
  refine hloop 128 x3 ls (by have h9 := lv_sub hl [0, 1, 2, 4] rfl; subst ex4; exact h9) (by decide) (fun ls hl => ?_)
  clear hloop
  obtain ⟨y10, ey10⟩ : ∃ z, (be_lp x x2 128 x3) = z := ⟨_, rfl⟩
  rw [ey10] at hl
  refine lv_lload hx hb dA_best_46 (lv_at hl 0 rfl) ?_
  exact px_lret hx hb hr hlk dA_best_48 (by subst ey10 ex4 ex3 ex2; (try simp only [if_neg hc1]) <;> rfl)
set_option maxHeartbeats 4000000 in
set_option maxRecDepth 100000 in
theorem cA_worth (l : Launch) (g : xo_E) (T : Nat → Int64) (dk : Nat → Int32) (dn : Int32) (v : Int32) (hst : l.stackTraces = false)  : px_M l yA_worth bA_worth 3 (some .int) 7 [.ref (xo_a g), .int v] (xo_F g T dk dn) (if q_val v then .inl ex_IA else r_i (f_cat v + f_rowAt (f_cat v) (v - fi (f_cat v)))) := by
  refine vx_ofW (cc := bA_worth) (maxL := 3) (ret := (some .int)) (by decide) rfl ?_
  intro p e s m args below meth c s₁ BB hml hout hv
  obtain ⟨rfl, hB⟩ := hv
  have hx := BB.exec
  have hb := BB.bytes
  have hr := BB.returns
  have hlk := BB.notSynchronized
  have hts := atoms_spec (ws := wd yA_worth bA_worth 3 (some .int)) BB.pre
  have hown : s.vm.findClass "HandTables" = some m.cls := findClass_of_methodNamed BB.named
  have hS : CallFix p m c bA_worth 3 s _ (wd yA_worth bA_worth 3 (some .int)) "HandTables" := ⟨hx, hb, hml, hown, hts⟩
  obtain ⟨hTa, hEx, hP, hK⟩ := id hB
  obtain ⟨⟨t1, hT1⟩, ⟨t2, hT2⟩, ⟨t3, hT3⟩, ⟨t4, hT4⟩⟩ := id hTa
  have hl := lv_entry ([.ref (xo_a g), .int v]) (n := 3) (Nat.le_of_ble_eq_true rfl)
  rw [lg_entry_eq]
  generalize (lg_sl ([.ref (xo_a g), .int v]) ++ List.replicate (3 - (lg_sl ([.ref (xo_a g), .int v])).length) Slot.unset).toArray = ls at hl ⊢
  have hl : lv_has ls 3 [(0, .ref (xo_a g)), (1, .int v)] := hl
  refine lv_iload_n hx hb dA_worth_0 rfl (lv_at hl 1 rfl) ?_
  refine px_S (cA_requireValue l _ hst) rfl kA_A_requireValue hS bl_ex hEx ⟨Nat.le_of_ble_eq_true rfl, Nat.le_of_ble_eq_true rfl⟩ hl.1 rfl (Nat.le_of_ble_eq_true rfl) ⟨Nat.le_of_ble_eq_true rfl, Nat.le_of_ble_eq_true rfl⟩ dA_worth_1 hout hlk (fun E h9 => ?_) (fun v hv => ?_)
  · obtain ⟨hc1, rfl⟩ := ri_then h9
    (try simp only [if_pos hc1]) <;> rfl
  obtain ⟨hc1, rfl⟩ := ri_else hv
  refine lv_iload_n hx hb dA_worth_4 rfl (lv_at hl 1 rfl) ?_
  refine pu_S (cA_categoryOf l _) rfl kA_A_categoryOf hS bl_ta hTa rfl ⟨Nat.le_of_ble_eq_true rfl, Nat.le_of_ble_eq_true rfl⟩ hl.1 rfl (Nat.le_of_ble_eq_true rfl) ⟨Nat.zero_le _, Nat.zero_le _⟩ dA_worth_5 ?_
  refine jt_topi (fun x2 ex2 => ?_)
  refine lv_istore_n (lv' := [(2, .int x2), (0, .ref (xo_a g)), (1, .int v)]) hx hb dA_worth_8 rfl hl (by decide) rfl (fun ls hl => ?_)
  refine lv_iload_n hx hb dA_worth_9 rfl (lv_at hl 0 rfl) ?_
  refine lv_iload_n hx hb dA_worth_10 rfl (lv_at hl 0 rfl) ?_
  refine lv_iload_n hx hb dA_worth_11 rfl (lv_at hl 2 rfl) ?_
  refine ta_get hx hb hT1 hown (hts _ (wd_in (gw_mem 175 rfl rfl))) dA_worth_12 ?_
  refine lv_iload_n hx hb dA_worth_15 rfl (lv_at hl 0 rfl) ?_
  refine ta_ld hx hb hT1 (by subst_vars; exact ca_in _ (by decide) (by decide)) dA_worth_16 ?_
  refine lv_isub hx hb dA_worth_17 ?_
  refine pu_S (cA_rowAt l _ _) rfl kA_A_rowAt hS bl_ta hTa rfl ⟨Nat.le_of_ble_eq_true rfl, Nat.le_of_ble_eq_true rfl⟩ hl.1 rfl (Nat.le_of_ble_eq_true rfl) ⟨Nat.zero_le _, Nat.zero_le _⟩ dA_worth_18 ?_
  refine lv_iadd hx hb dA_worth_21 ?_
  exact px_iret hx hb hr hlk dA_worth_22 (by subst ex2; (try simp only [if_neg hc1]) <;> rfl)
set_option maxHeartbeats 4000000 in
set_option maxRecDepth 100000 in
theorem cA_sets (l : Launch) (g : xo_E) (T : Nat → Int64) (dk : Nat → Int32) (dn : Int32) (v : Int32) (hst : l.stackTraces = false)  : px_M l yA_sets bA_sets 2 (some .int) 7 [.ref (xo_a g), .int v] (xo_F g T dk dn) (if q_val v then .inl ex_IA else r_i (l_SETS.getD (f_cat v).toNatClampNeg 0)) := by
  refine vx_ofW (cc := bA_sets) (maxL := 2) (ret := (some .int)) (by decide) rfl ?_
  intro p e s m args below meth c s₁ BB hml hout hv
  obtain ⟨rfl, hB⟩ := hv
  have hx := BB.exec
  have hb := BB.bytes
  have hr := BB.returns
  have hlk := BB.notSynchronized
  have hts := atoms_spec (ws := wd yA_sets bA_sets 2 (some .int)) BB.pre
  have hown : s.vm.findClass "HandTables" = some m.cls := findClass_of_methodNamed BB.named
  have hS : CallFix p m c bA_sets 2 s _ (wd yA_sets bA_sets 2 (some .int)) "HandTables" := ⟨hx, hb, hml, hown, hts⟩
  obtain ⟨hTa, hEx, hP, hK⟩ := id hB
  obtain ⟨⟨t1, hT1⟩, ⟨t2, hT2⟩, ⟨t3, hT3⟩, ⟨t4, hT4⟩⟩ := id hTa
  have hl := lv_entry ([.ref (xo_a g), .int v]) (n := 2) (Nat.le_of_ble_eq_true rfl)
  rw [lg_entry_eq]
  generalize (lg_sl ([.ref (xo_a g), .int v]) ++ List.replicate (2 - (lg_sl ([.ref (xo_a g), .int v])).length) Slot.unset).toArray = ls at hl ⊢
  have hl : lv_has ls 2 [(0, .ref (xo_a g)), (1, .int v)] := hl
  refine lv_iload_n hx hb dA_sets_0 rfl (lv_at hl 1 rfl) ?_
  refine px_S (cA_requireValue l _ hst) rfl kA_A_requireValue hS bl_ex hEx ⟨Nat.le_of_ble_eq_true rfl, Nat.le_of_ble_eq_true rfl⟩ hl.1 rfl (Nat.le_of_ble_eq_true rfl) ⟨Nat.le_of_ble_eq_true rfl, Nat.le_of_ble_eq_true rfl⟩ dA_sets_1 hout hlk (fun E h9 => ?_) (fun v hv => ?_)
  · obtain ⟨hc1, rfl⟩ := ri_then h9
    (try simp only [if_pos hc1]) <;> rfl
  obtain ⟨hc1, rfl⟩ := ri_else hv
  refine ta_get hx hb hT2 hown (hts _ (wd_in (gw_mem 259 rfl rfl))) dA_sets_4 ?_
  refine lv_iload_n hx hb dA_sets_7 rfl (lv_at hl 1 rfl) ?_
  refine pu_S (cA_categoryOf l _) rfl kA_A_categoryOf hS bl_ta hTa rfl ⟨Nat.le_of_ble_eq_true rfl, Nat.le_of_ble_eq_true rfl⟩ hl.1 rfl (Nat.le_of_ble_eq_true rfl) ⟨Nat.zero_le _, Nat.zero_le _⟩ dA_sets_8 ?_
  refine ta_ld hx hb hT2 (ca_in _ (by decide) (by decide)) dA_sets_11 ?_
  exact px_iret hx hb hr hlk dA_sets_12 (by (try simp only [if_neg hc1]) <;> rfl)
set_option maxHeartbeats 4000000 in
set_option maxRecDepth 100000 in
theorem cA_first (l : Launch) (g : xo_E) (T : Nat → Int64) (dk : Nat → Int32) (dn : Int32) (k : Int32) (hst : l.stackTraces = false)  : px_M l yA_first bA_first 2 (some .int) 7 [.ref (xo_a g), .int k] (xo_F g T dk dn) (if k < 0 then .inl ex_IA else if k ≤ 9 then r_i (fi k) else .inl ex_IA) := by
  refine vx_ofW (cc := bA_first) (maxL := 2) (ret := (some .int)) (by decide) rfl ?_
  intro p e s m args below meth c s₁ BB hml hout hv
  obtain ⟨rfl, hB⟩ := hv
  have hx := BB.exec
  have hb := BB.bytes
  have hr := BB.returns
  have hlk := BB.notSynchronized
  have hts := atoms_spec (ws := wd yA_first bA_first 2 (some .int)) BB.pre
  have hown : s.vm.findClass "HandTables" = some m.cls := findClass_of_methodNamed BB.named
  have hS : CallFix p m c bA_first 2 s _ (wd yA_first bA_first 2 (some .int)) "HandTables" := ⟨hx, hb, hml, hown, hts⟩
  obtain ⟨hTa, hEx, hP, hK⟩ := id hB
  obtain ⟨⟨t1, hT1⟩, ⟨t2, hT2⟩, ⟨t3, hT3⟩, ⟨t4, hT4⟩⟩ := id hTa
  have hl := lv_entry ([.ref (xo_a g), .int k]) (n := 2) (Nat.le_of_ble_eq_true rfl)
  rw [lg_entry_eq]
  generalize (lg_sl ([.ref (xo_a g), .int k]) ++ List.replicate (2 - (lg_sl ([.ref (xo_a g), .int k])).length) Slot.unset).toArray = ls at hl ⊢
  have hl : lv_has ls 2 [(0, .ref (xo_a g)), (1, .int k)] := hl
  refine lv_iload_n hx hb dA_first_0 rfl (lv_at hl 1 rfl) ?_
  refine lv_if_lt (tgt := 10) hx hb dA_first_1 (by decide) (fun hc1 => ?_) (fun hc1 => ?_)
  · exact px_throw (cls := ex_IA) (text := "no such category") hx hb hst hown hts hEx (by decide +kernel) (gw_mem 97 rfl rfl) (gw_mem 33 rfl rfl) (by decide) at_IA an_IA ag_IA (by rw [hml]; exact hl.1) dA_first_10 dA_first_13 dA_first_14 dA_first_16 dA_first_19 hout (Nat.le_of_ble_eq_true rfl) (Nat.le_of_ble_eq_true rfl) (Nat.le_of_ble_eq_true rfl) (Nat.le_of_ble_eq_true rfl) hlk (by (try simp only [if_pos hc1]) <;> rfl)
  · refine lv_iload_n hx hb dA_first_4 rfl (lv_at hl 1 rfl) ?_
    refine lv_bipush (v := 9) hx hb dA_first_5 (by decide) ?_
    refine lv_icmp_le (tgt := 20) hx hb dA_first_7 (by decide) (fun hc2 => ?_) (fun hc2 => ?_)
    · refine ta_get hx hb hT1 hown (hts _ (wd_in (gw_mem 175 rfl rfl))) dA_first_20 ?_
      refine lv_iload_n hx hb dA_first_23 rfl (lv_at hl 1 rfl) ?_
      refine ta_ld hx hb hT1 (fr_in hc1 hc2) dA_first_24 ?_
      exact px_iret hx hb hr hlk dA_first_25 (by (try simp only [if_neg hc1, if_pos hc2]) <;> rfl)
    · exact px_throw (cls := ex_IA) (text := "no such category") hx hb hst hown hts hEx (by decide +kernel) (gw_mem 97 rfl rfl) (gw_mem 33 rfl rfl) (by decide) at_IA an_IA ag_IA (by rw [hml]; exact hl.1) dA_first_10 dA_first_13 dA_first_14 dA_first_16 dA_first_19 hout (Nat.le_of_ble_eq_true rfl) (Nat.le_of_ble_eq_true rfl) (Nat.le_of_ble_eq_true rfl) (Nat.le_of_ble_eq_true rfl) hlk (by (try simp only [if_neg hc1, if_neg hc2]) <;> rfl)
set_option maxHeartbeats 4000000 in
set_option maxRecDepth 100000 in
theorem cA_cards (l : Launch) (g : xo_E) (T : Nat → Int64) (dk : Nat → Int32) (dn : Int32) (k : Int32) (hst : l.stackTraces = false)  : px_M l yA_cards bA_cards 2 (some .long) 7 [.ref (xo_a g), .int k] (xo_F g T dk dn) (if k = 6 then r_l (T k.toNatClampNeg) else if q_seat k then .inl ex_IO else r_l (T k.toNatClampNeg)) := by
  refine vx_ofW (cc := bA_cards) (maxL := 2) (ret := (some .long)) (by decide) rfl ?_
  intro p e s m args below meth c s₁ BB hml hout hv
  obtain ⟨rfl, hB⟩ := hv
  have hx := BB.exec
  have hb := BB.bytes
  have hr := BB.returns
  have hlk := BB.notSynchronized
  have hts := atoms_spec (ws := wd yA_cards bA_cards 2 (some .long)) BB.pre
  have hown : s.vm.findClass "HandTables" = some m.cls := findClass_of_methodNamed BB.named
  have hS : CallFix p m c bA_cards 2 s _ (wd yA_cards bA_cards 2 (some .long)) "HandTables" := ⟨hx, hb, hml, hown, hts⟩
  obtain ⟨hTa, hEx, hP, hK⟩ := id hB
  obtain ⟨⟨t1, hT1⟩, ⟨t2, hT2⟩, ⟨t3, hT3⟩, ⟨t4, hT4⟩⟩ := id hTa
  have hl := lv_entry ([.ref (xo_a g), .int k]) (n := 2) (Nat.le_of_ble_eq_true rfl)
  rw [lg_entry_eq]
  generalize (lg_sl ([.ref (xo_a g), .int k]) ++ List.replicate (2 - (lg_sl ([.ref (xo_a g), .int k])).length) Slot.unset).toArray = ls at hl ⊢
  have hl : lv_has ls 2 [(0, .ref (xo_a g)), (1, .int k)] := hl
  refine lv_iload_n hx hb dA_cards_0 rfl (lv_at hl 1 rfl) ?_
  refine lv_bipush (v := 6) hx hb dA_cards_1 (by decide) ?_
  refine lv_icmp_eq (tgt := 10) hx hb dA_cards_3 (by decide) (fun hc1 => ?_) (fun hc1 => ?_)
  · refine lv_aload_n hx hb dA_cards_10 rfl (lv_at hl 0 rfl) ?_
    refine va_get (D := g.1) (ci := 0) (v := .ref (xo_t g)) (C := "HandTables") (T := T_A) (N := 3) hx hb hts (fun w hw => wd_in (u_inA w hw)) hown hK hP 0 rfl rfl 0 (by decide) (hts _ (wd_in (gw_mem 49 rfl rfl))) (fun _ h => h) rfl dA_cards_11 ?_
    refine lv_iload_n hx hb dA_cards_14 rfl (lv_at hl 1 rfl) ?_
    refine va_lald hx hb hK hP 1 0 rfl rfl (by rw [hc1]; unfold vp_in; decide) dA_cards_15 ?_
    exact px_lret hx hb hr hlk dA_cards_16 (by (try simp only [if_pos hc1]) <;> rfl)
  · refine lv_iload_n hx hb dA_cards_6 rfl (lv_at hl 1 rfl) ?_
    refine px_S (cA_requireSeat l _ hst) rfl kA_A_requireSeat hS bl_ex hEx ⟨Nat.le_of_ble_eq_true rfl, Nat.le_of_ble_eq_true rfl⟩ hl.1 rfl (Nat.le_of_ble_eq_true rfl) ⟨Nat.le_of_ble_eq_true rfl, Nat.le_of_ble_eq_true rfl⟩ dA_cards_7 hout hlk (fun E h9 => ?_) (fun v hv => ?_)
    · obtain ⟨hc2, rfl⟩ := ri_then h9
      (try simp only [if_neg hc1, if_pos hc2]) <;> rfl
    obtain ⟨hc2, rfl⟩ := ri_else hv
    refine lv_aload_n hx hb dA_cards_10 rfl (lv_at hl 0 rfl) ?_
    refine va_get (D := g.1) (ci := 0) (v := .ref (xo_t g)) (C := "HandTables") (T := T_A) (N := 3) hx hb hts (fun w hw => wd_in (u_inA w hw)) hown hK hP 0 rfl rfl 0 (by decide) (hts _ (wd_in (gw_mem 49 rfl rfl))) (fun _ h => h) rfl dA_cards_11 ?_
    refine lv_iload_n hx hb dA_cards_14 rfl (lv_at hl 1 rfl) ?_
    refine va_lald hx hb hK hP 1 0 rfl rfl (se_in hc2) dA_cards_15 ?_
    exact px_lret hx hb hr hlk dA_cards_16 (by (try simp only [if_neg hc1, if_neg hc2]) <;> rfl)
set_option maxHeartbeats 4000000 in
set_option maxRecDepth 100000 in
theorem cA_hand (l : Launch) (g : xo_E) (T : Nat → Int64) (dk : Nat → Int32) (dn : Int32) (k : Int32) (hst : l.stackTraces = false)  : px_M l yA_hand bA_hand 2 (some .int) 7 [.ref (xo_a g), .int k] (xo_F g T dk dn) (if q_seat k then .inl ex_IO else if T k.toNatClampNeg = 0 then .inl ex_IS else if g_bs T < 3 then .inl ex_IS else r_i (f_valueOf (T k.toNatClampNeg ||| T (6 : Int32).toNatClampNeg))) := by
  refine vx_ofW (cc := bA_hand) (maxL := 2) (ret := (some .int)) (by decide) rfl ?_
  intro p e s m args below meth c s₁ BB hml hout hv
  obtain ⟨rfl, hB⟩ := hv
  have hx := BB.exec
  have hb := BB.bytes
  have hr := BB.returns
  have hlk := BB.notSynchronized
  have hts := atoms_spec (ws := wd yA_hand bA_hand 2 (some .int)) BB.pre
  have hown : s.vm.findClass "HandTables" = some m.cls := findClass_of_methodNamed BB.named
  have hS : CallFix p m c bA_hand 2 s _ (wd yA_hand bA_hand 2 (some .int)) "HandTables" := ⟨hx, hb, hml, hown, hts⟩
  obtain ⟨hTa, hEx, hP, hK⟩ := id hB
  obtain ⟨⟨t1, hT1⟩, ⟨t2, hT2⟩, ⟨t3, hT3⟩, ⟨t4, hT4⟩⟩ := id hTa
  have hl := lv_entry ([.ref (xo_a g), .int k]) (n := 2) (Nat.le_of_ble_eq_true rfl)
  rw [lg_entry_eq]
  generalize (lg_sl ([.ref (xo_a g), .int k]) ++ List.replicate (2 - (lg_sl ([.ref (xo_a g), .int k])).length) Slot.unset).toArray = ls at hl ⊢
  have hl : lv_has ls 2 [(0, .ref (xo_a g)), (1, .int k)] := hl
  refine lv_iload_n hx hb dA_hand_0 rfl (lv_at hl 1 rfl) ?_
  refine px_S (cA_requireSeat l _ hst) rfl kA_A_requireSeat hS bl_ex hEx ⟨Nat.le_of_ble_eq_true rfl, Nat.le_of_ble_eq_true rfl⟩ hl.1 rfl (Nat.le_of_ble_eq_true rfl) ⟨Nat.le_of_ble_eq_true rfl, Nat.le_of_ble_eq_true rfl⟩ dA_hand_1 hout hlk (fun E h9 => ?_) (fun v hv => ?_)
  · obtain ⟨hc1, rfl⟩ := ri_then h9
    (try simp only [if_pos hc1]) <;> rfl
  obtain ⟨hc1, rfl⟩ := ri_else hv
  refine lv_aload_n hx hb dA_hand_4 rfl (lv_at hl 0 rfl) ?_
  refine lv_iload_n hx hb dA_hand_5 rfl (lv_at hl 1 rfl) ?_
  refine px_V (cA_requireTaken l g T dk dn _ hst (se_in (by assumption))) rfl kA_A_requireTaken hS bl_xo hB (xo_rc hB) ⟨Nat.le_of_ble_eq_true rfl, Nat.le_of_ble_eq_true rfl⟩ hl.1 rfl (Nat.le_of_ble_eq_true rfl) ⟨Nat.le_of_ble_eq_true rfl, Nat.le_of_ble_eq_true rfl⟩ dA_hand_6 hout hlk (fun E h9 => ?_) (fun v hv => ?_)
  · obtain ⟨hc2, rfl⟩ := ri_then h9
    (try simp only [if_neg hc1, if_pos hc2]) <;> rfl
  obtain ⟨hc2, rfl⟩ := ri_else hv
  refine lv_aload_n hx hb dA_hand_9 rfl (lv_at hl 0 rfl) ?_
  refine px_V (cA_requireThreeOnBoard l g T dk dn  hst) rfl kA_A_requireThreeOnBoard hS bl_xo hB (xo_rc hB) ⟨Nat.le_of_ble_eq_true rfl, Nat.le_of_ble_eq_true rfl⟩ hl.1 rfl (Nat.le_of_ble_eq_true rfl) ⟨Nat.le_of_ble_eq_true rfl, Nat.le_of_ble_eq_true rfl⟩ dA_hand_10 hout hlk (fun E h9 => ?_) (fun v hv => ?_)
  · obtain ⟨hc3, rfl⟩ := ri_then h9
    (try simp only [if_neg hc1, if_neg hc2, if_pos hc3]) <;> rfl
  obtain ⟨hc3, rfl⟩ := ri_else hv
  refine lv_aload_n hx hb dA_hand_13 rfl (lv_at hl 0 rfl) ?_
  refine va_get (D := g.1) (ci := 0) (v := .ref (xo_t g)) (C := "HandTables") (T := T_A) (N := 3) hx hb hts (fun w hw => wd_in (u_inA w hw)) hown hK hP 0 rfl rfl 0 (by decide) (hts _ (wd_in (gw_mem 49 rfl rfl))) (fun _ h => h) rfl dA_hand_14 ?_
  refine lv_iload_n hx hb dA_hand_17 rfl (lv_at hl 1 rfl) ?_
  refine va_lald hx hb hK hP 1 0 rfl rfl (se_in hc1) dA_hand_18 ?_
  refine lv_aload_n hx hb dA_hand_19 rfl (lv_at hl 0 rfl) ?_
  refine va_get (D := g.1) (ci := 0) (v := .ref (xo_t g)) (C := "HandTables") (T := T_A) (N := 3) hx hb hts (fun w hw => wd_in (u_inA w hw)) hown hK hP 0 rfl rfl 0 (by decide) (hts _ (wd_in (gw_mem 49 rfl rfl))) (fun _ h => h) rfl dA_hand_20 ?_
  refine lv_bipush (v := 6) hx hb dA_hand_23 (by decide) ?_
  refine va_lald hx hb hK hP 1 0 rfl rfl (by unfold vp_in; decide) dA_hand_25 ?_
  refine lv_lor hx hb dA_hand_26 ?_
  refine pu_S (cA_valueOf l _) rfl kA_A_valueOf hS bl_ta hTa rfl ⟨Nat.le_of_ble_eq_true rfl, Nat.le_of_ble_eq_true rfl⟩ hl.1 rfl (Nat.le_of_ble_eq_true rfl) ⟨Nat.zero_le _, Nat.zero_le _⟩ dA_hand_27 ?_
  exact px_iret hx hb hr hlk dA_hand_30 (by (try simp only [if_neg hc1, if_neg hc2, if_neg hc3]) <;> rfl)
set_option maxHeartbeats 4000000 in
set_option maxRecDepth 100000 in
theorem cA_ahead (l : Launch) (g : xo_E) (T : Nat → Int64) (dk : Nat → Int32) (dn : Int32)  (hst : l.stackTraces = false)  : px_M l yA_ahead bA_ahead 2 (some .int) 7 [.ref (xo_a g)] (xo_F g T dk dn) (if g_bs T < 3 then .inl ex_IS else if g_lead T (T (6 : Int32).toNatClampNeg) = 0 then .inl ex_IS else r_i (g_lead T (T (6 : Int32).toNatClampNeg))) := by
  refine vx_ofW (cc := bA_ahead) (maxL := 2) (ret := (some .int)) (by decide) rfl ?_
  intro p e s m args below meth c s₁ BB hml hout hv
  obtain ⟨rfl, hB⟩ := hv
  have hx := BB.exec
  have hb := BB.bytes
  have hr := BB.returns
  have hlk := BB.notSynchronized
  have hts := atoms_spec (ws := wd yA_ahead bA_ahead 2 (some .int)) BB.pre
  have hown : s.vm.findClass "HandTables" = some m.cls := findClass_of_methodNamed BB.named
  have hS : CallFix p m c bA_ahead 2 s _ (wd yA_ahead bA_ahead 2 (some .int)) "HandTables" := ⟨hx, hb, hml, hown, hts⟩
  obtain ⟨hTa, hEx, hP, hK⟩ := id hB
  obtain ⟨⟨t1, hT1⟩, ⟨t2, hT2⟩, ⟨t3, hT3⟩, ⟨t4, hT4⟩⟩ := id hTa
  have hl := lv_entry ([.ref (xo_a g)]) (n := 2) (Nat.le_of_ble_eq_true rfl)
  rw [lg_entry_eq]
  generalize (lg_sl ([.ref (xo_a g)]) ++ List.replicate (2 - (lg_sl ([.ref (xo_a g)])).length) Slot.unset).toArray = ls at hl ⊢
  have hl : lv_has ls 2 [(0, .ref (xo_a g))] := hl
  refine lv_aload_n hx hb dA_ahead_0 rfl (lv_at hl 0 rfl) ?_
  refine px_V (cA_requireThreeOnBoard l g T dk dn  hst) rfl kA_A_requireThreeOnBoard hS bl_xo hB (xo_rc hB) ⟨Nat.le_of_ble_eq_true rfl, Nat.le_of_ble_eq_true rfl⟩ hl.1 rfl (Nat.le_of_ble_eq_true rfl) ⟨Nat.le_of_ble_eq_true rfl, Nat.le_of_ble_eq_true rfl⟩ dA_ahead_1 hout hlk (fun E h9 => ?_) (fun v hv => ?_)
  · obtain ⟨hc1, rfl⟩ := ri_then h9
    (try simp only [if_pos hc1]) <;> rfl
  obtain ⟨hc1, rfl⟩ := ri_else hv
  refine lv_aload_n hx hb dA_ahead_4 rfl (lv_at hl 0 rfl) ?_
  refine va_get (D := g.1) (ci := 0) (v := .ref (xo_t g)) (C := "HandTables") (T := T_A) (N := 3) hx hb hts (fun w hw => wd_in (u_inA w hw)) hown hK hP 0 rfl rfl 0 (by decide) (hts _ (wd_in (gw_mem 49 rfl rfl))) (fun _ h => h) rfl dA_ahead_5 ?_
  refine lv_aload_n hx hb dA_ahead_8 rfl (lv_at hl 0 rfl) ?_
  refine va_get (D := g.1) (ci := 0) (v := .ref (xo_t g)) (C := "HandTables") (T := T_A) (N := 3) hx hb hts (fun w hw => wd_in (u_inA w hw)) hown hK hP 0 rfl rfl 0 (by decide) (hts _ (wd_in (gw_mem 49 rfl rfl))) (fun _ h => h) rfl dA_ahead_9 ?_
  refine lv_bipush (v := 6) hx hb dA_ahead_12 (by decide) ?_
  refine va_lald hx hb hK hP 1 0 rfl rfl (by unfold vp_in; decide) dA_ahead_14 ?_
  refine pu_S (cA_leadersOn l g T dk dn _) rfl kA_A_leadersOn hS bl_xo hB rfl ⟨Nat.le_of_ble_eq_true rfl, Nat.le_of_ble_eq_true rfl⟩ hl.1 rfl (Nat.le_of_ble_eq_true rfl) ⟨Nat.zero_le _, Nat.zero_le _⟩ dA_ahead_15 ?_
  refine jt_topi (fun x2 ex2 => ?_)
  refine lv_istore_n (lv' := [(1, .int x2), (0, .ref (xo_a g))]) hx hb dA_ahead_18 rfl hl (by decide) rfl (fun ls hl => ?_)
  refine lv_iload_n hx hb dA_ahead_19 rfl (lv_at hl 0 rfl) ?_
  refine lv_if_ne (tgt := 33) hx hb dA_ahead_20 (by decide) (fun hc3 => ?_) (fun hc3 => ?_)
  · refine lv_iload_n hx hb dA_ahead_33 rfl (lv_at hl 0 rfl) ?_
    exact px_iret hx hb hr hlk dA_ahead_34 (by subst ex2; (try simp only [if_neg hc1, if_neg hc3]) <;> rfl)
  · exact px_throw (cls := ex_IS) (text := "all seats are empty") hx hb hst hown hts hEx (by decide +kernel) (gw_mem 341 rfl rfl) (gw_mem 35 rfl rfl) (by decide) at_IS an_IS ag_IS (by rw [hml]; exact hl.1) dA_ahead_23 dA_ahead_26 dA_ahead_27 dA_ahead_29 dA_ahead_32 hout (Nat.le_of_ble_eq_true rfl) (Nat.le_of_ble_eq_true rfl) (Nat.le_of_ble_eq_true rfl) (Nat.le_of_ble_eq_true rfl) hlk (by subst ex2; (try simp only [if_neg hc1, if_pos hc3]) <;> rfl)
set_option maxHeartbeats 4000000 in
set_option maxRecDepth 100000 in
theorem cA_boards (l : Launch) (g : xo_E) (T : Nat → Int64) (dk : Nat → Int32) (dn : Int32)  (hst : l.stackTraces = false)  : px_M l yA_boards bA_boards 2 (some .int) 7 [.ref (xo_a g)] (xo_F g T dk dn) (if g_bs T < 3 then .inl ex_IS else r_i (g_boards (5 - g_bs T) (f_bc (g_free T)))) := by
  refine vx_ofW (cc := bA_boards) (maxL := 2) (ret := (some .int)) (by decide) rfl ?_
  intro p e s m args below meth c s₁ BB hml hout hv
  obtain ⟨rfl, hB⟩ := hv
  have hx := BB.exec
  have hb := BB.bytes
  have hr := BB.returns
  have hlk := BB.notSynchronized
  have hts := atoms_spec (ws := wd yA_boards bA_boards 2 (some .int)) BB.pre
  have hown : s.vm.findClass "HandTables" = some m.cls := findClass_of_methodNamed BB.named
  have hS : CallFix p m c bA_boards 2 s _ (wd yA_boards bA_boards 2 (some .int)) "HandTables" := ⟨hx, hb, hml, hown, hts⟩
  obtain ⟨hTa, hEx, hP, hK⟩ := id hB
  obtain ⟨⟨t1, hT1⟩, ⟨t2, hT2⟩, ⟨t3, hT3⟩, ⟨t4, hT4⟩⟩ := id hTa
  have hl := lv_entry ([.ref (xo_a g)]) (n := 2) (Nat.le_of_ble_eq_true rfl)
  rw [lg_entry_eq]
  generalize (lg_sl ([.ref (xo_a g)]) ++ List.replicate (2 - (lg_sl ([.ref (xo_a g)])).length) Slot.unset).toArray = ls at hl ⊢
  have hl : lv_has ls 2 [(0, .ref (xo_a g))] := hl
  refine lv_aload_n hx hb dA_boards_0 rfl (lv_at hl 0 rfl) ?_
  refine px_V (cA_requireThreeOnBoard l g T dk dn  hst) rfl kA_A_requireThreeOnBoard hS bl_xo hB (xo_rc hB) ⟨Nat.le_of_ble_eq_true rfl, Nat.le_of_ble_eq_true rfl⟩ hl.1 rfl (Nat.le_of_ble_eq_true rfl) ⟨Nat.le_of_ble_eq_true rfl, Nat.le_of_ble_eq_true rfl⟩ dA_boards_1 hout hlk (fun E h9 => ?_) (fun v hv => ?_)
  · obtain ⟨hc1, rfl⟩ := ri_then h9
    (try simp only [g_boards, if_pos hc1]) <;> rfl
  obtain ⟨hc1, rfl⟩ := ri_else hv
  refine lv_aload_n hx hb dA_boards_4 rfl (lv_at hl 0 rfl) ?_
  refine pu_V (cA_free l g T dk dn ) rfl kA_A_free hS bl_xo hB rfl (xo_rc hB) ⟨Nat.le_of_ble_eq_true rfl, Nat.le_of_ble_eq_true rfl⟩ hl.1 rfl (Nat.le_of_ble_eq_true rfl) ⟨Nat.zero_le _, Nat.zero_le _⟩ dA_boards_5 ?_
  refine pu_S (cJ_bitCount l _) rfl kA_J_bitCount hS bl_T trivial rfl ⟨Nat.le_of_ble_eq_true rfl, Nat.le_of_ble_eq_true rfl⟩ hl.1 rfl (Nat.le_of_ble_eq_true rfl) ⟨Nat.zero_le _, Nat.zero_le _⟩ dA_boards_8 ?_
  refine jt_topi (fun x2 ex2 => ?_)
  refine lv_istore_n (lv' := [(1, .int x2), (0, .ref (xo_a g))]) hx hb dA_boards_11 rfl hl (by decide) rfl (fun ls hl => ?_)
  refine lv_aload_n hx hb dA_boards_12 rfl (lv_at hl 1 rfl) ?_
  refine pu_V (cA_missing l g T dk dn ) rfl kA_A_missing hS bl_xo hB rfl (xo_rc hB) ⟨Nat.le_of_ble_eq_true rfl, Nat.le_of_ble_eq_true rfl⟩ hl.1 rfl (Nat.le_of_ble_eq_true rfl) ⟨Nat.zero_le _, Nat.zero_le _⟩ dA_boards_13 ?_
  by_cases hc3 : 5 - g_bs T = 0
  · refine lv_lookup (off := 28) (tgt := 44) hx hb dA_boards_16 (by decide) (by rw [hc3]; rfl) (by decide) ?_
    refine lv_iconst (v := 1) hx hb dA_boards_44 (by decide) ?_
    exact px_iret hx hb hr hlk dA_boards_45 (by subst ex2; (try simp only [g_boards, if_neg hc1, if_pos hc3]) <;> rfl)
  by_cases hc4 : 5 - g_bs T = 1
  · refine lv_lookup (off := 30) (tgt := 46) hx hb dA_boards_16 (by decide) (by rw [hc4]; rfl) (by decide) ?_
    refine lv_iload_n hx hb dA_boards_46 rfl (lv_at hl 0 rfl) ?_
    exact px_iret hx hb hr hlk dA_boards_47 (by subst ex2; (try simp only [g_boards, if_neg hc1, if_neg hc3, if_pos hc4]) <;> rfl)
  refine lv_lookup (off := 32) (tgt := 48) hx hb dA_boards_16 (by decide) ((lv_osw hc3 rfl).trans <| (lv_osw hc4 rfl).trans <| rfl) (by decide) ?_
  refine lv_iload_n hx hb dA_boards_48 rfl (lv_at hl 0 rfl) ?_
  refine lv_iload_n hx hb dA_boards_49 rfl (lv_at hl 0 rfl) ?_
  refine lv_iconst (v := 1) hx hb dA_boards_50 (by decide) ?_
  refine lv_isub hx hb dA_boards_51 ?_
  refine lv_imul hx hb dA_boards_52 ?_
  refine lv_iconst (v := 2) hx hb dA_boards_53 (by decide) ?_
  refine lv_idiv hx hb dA_boards_54 (by decide) ?_
  exact px_iret hx hb hr hlk dA_boards_55 (by subst ex2; (try simp only [g_boards, if_neg hc1, if_neg hc3, if_neg hc4]) <;> rfl)
set_option maxHeartbeats 4000000 in
set_option maxRecDepth 100000 in
theorem cA_outs (l : Launch) (g : xo_E) (T : Nat → Int64) (dk : Nat → Int32) (dn : Int32) (k : Int32) (hst : l.stackTraces = false)  : px_M l yA_outs bA_outs 9 (some .long) 7 [.ref (xo_a g), .int k] (xo_F g T dk dn) (if q_seat k then .inl ex_IO else if T k.toNatClampNeg = 0 then .inl ex_IS else if g_bs T < 3 then .inl ex_IS else if 5 - g_bs T = 0 then .inl ex_IS else r_l (g_outs T k)) := by
  refine vx_ofW (cc := bA_outs) (maxL := 9) (ret := (some .long)) (by decide) rfl ?_
  intro p e s m args below meth c s₁ BB hml hout hv
  obtain ⟨rfl, hB⟩ := hv
  have hx := BB.exec
  have hb := BB.bytes
  have hr := BB.returns
  have hlk := BB.notSynchronized
  have hts := atoms_spec (ws := wd yA_outs bA_outs 9 (some .long)) BB.pre
  have hown : s.vm.findClass "HandTables" = some m.cls := findClass_of_methodNamed BB.named
  have hS : CallFix p m c bA_outs 9 s _ (wd yA_outs bA_outs 9 (some .long)) "HandTables" := ⟨hx, hb, hml, hown, hts⟩
  obtain ⟨hTa, hEx, hP, hK⟩ := id hB
  obtain ⟨⟨t1, hT1⟩, ⟨t2, hT2⟩, ⟨t3, hT3⟩, ⟨t4, hT4⟩⟩ := id hTa
  have hl := lv_entry ([.ref (xo_a g), .int k]) (n := 9) (Nat.le_of_ble_eq_true rfl)
  rw [lg_entry_eq]
  generalize (lg_sl ([.ref (xo_a g), .int k]) ++ List.replicate (9 - (lg_sl ([.ref (xo_a g), .int k])).length) Slot.unset).toArray = ls at hl ⊢
  have hl : lv_has ls 9 [(0, .ref (xo_a g)), (1, .int k)] := hl
  refine lv_iload_n hx hb dA_outs_0 rfl (lv_at hl 1 rfl) ?_
  refine px_S (cA_requireSeat l _ hst) rfl kA_A_requireSeat hS bl_ex hEx ⟨Nat.le_of_ble_eq_true rfl, Nat.le_of_ble_eq_true rfl⟩ hl.1 rfl (Nat.le_of_ble_eq_true rfl) ⟨Nat.le_of_ble_eq_true rfl, Nat.le_of_ble_eq_true rfl⟩ dA_outs_1 hout hlk (fun E h9 => ?_) (fun v hv => ?_)
  · obtain ⟨hc1, rfl⟩ := ri_then h9
    (try simp only [if_pos hc1]) <;> rfl
  obtain ⟨hc1, rfl⟩ := ri_else hv
  refine lv_aload_n hx hb dA_outs_4 rfl (lv_at hl 0 rfl) ?_
  refine lv_iload_n hx hb dA_outs_5 rfl (lv_at hl 1 rfl) ?_
  refine px_V (cA_requireTaken l g T dk dn _ hst (se_in (by assumption))) rfl kA_A_requireTaken hS bl_xo hB (xo_rc hB) ⟨Nat.le_of_ble_eq_true rfl, Nat.le_of_ble_eq_true rfl⟩ hl.1 rfl (Nat.le_of_ble_eq_true rfl) ⟨Nat.le_of_ble_eq_true rfl, Nat.le_of_ble_eq_true rfl⟩ dA_outs_6 hout hlk (fun E h9 => ?_) (fun v hv => ?_)
  · obtain ⟨hc2, rfl⟩ := ri_then h9
    (try simp only [if_neg hc1, if_pos hc2]) <;> rfl
  obtain ⟨hc2, rfl⟩ := ri_else hv
  refine lv_aload_n hx hb dA_outs_9 rfl (lv_at hl 0 rfl) ?_
  refine px_V (cA_requireThreeOnBoard l g T dk dn  hst) rfl kA_A_requireThreeOnBoard hS bl_xo hB (xo_rc hB) ⟨Nat.le_of_ble_eq_true rfl, Nat.le_of_ble_eq_true rfl⟩ hl.1 rfl (Nat.le_of_ble_eq_true rfl) ⟨Nat.le_of_ble_eq_true rfl, Nat.le_of_ble_eq_true rfl⟩ dA_outs_10 hout hlk (fun E h9 => ?_) (fun v hv => ?_)
  · obtain ⟨hc3, rfl⟩ := ri_then h9
    (try simp only [if_neg hc1, if_neg hc2, if_pos hc3]) <;> rfl
  obtain ⟨hc3, rfl⟩ := ri_else hv
  refine lv_aload_n hx hb dA_outs_13 rfl (lv_at hl 0 rfl) ?_
  refine pu_V (cA_missing l g T dk dn ) rfl kA_A_missing hS bl_xo hB rfl (xo_rc hB) ⟨Nat.le_of_ble_eq_true rfl, Nat.le_of_ble_eq_true rfl⟩ hl.1 rfl (Nat.le_of_ble_eq_true rfl) ⟨Nat.zero_le _, Nat.zero_le _⟩ dA_outs_14 ?_
  refine lv_if_ne (tgt := 30) hx hb dA_outs_17 (by decide) (fun hc4 => ?_) (fun hc4 => ?_)
  · refine lv_aload_n hx hb dA_outs_30 rfl (lv_at hl 0 rfl) ?_
    refine pu_V (cA_free l g T dk dn ) rfl kA_A_free hS bl_xo hB rfl (xo_rc hB) ⟨Nat.le_of_ble_eq_true rfl, Nat.le_of_ble_eq_true rfl⟩ hl.1 rfl (Nat.le_of_ble_eq_true rfl) ⟨Nat.zero_le _, Nat.zero_le _⟩ dA_outs_31 ?_
    refine jt_topl (fun x5 ex5 => ?_)
    refine lv_lstore_n (lv' := [(2, .long x5), (0, .ref (xo_a g)), (1, .int k)]) hx hb dA_outs_34 rfl hl (by decide) rfl (fun ls hl => ?_)
    refine lv_lconst (v := 0) hx hb dA_outs_35 (by decide) ?_
    refine jt_topl (fun x6 ex6 => ?_)
    refine lv_lstore (lv' := [(4, .long x6), (2, .long x5), (0, .ref (xo_a g)), (1, .int k)]) hx hb dA_outs_36 hl (by decide) rfl (fun ls hl => ?_)
    refine lv_iconst (v := 0) hx hb dA_outs_38 (by decide) ?_
    refine jt_topi (fun x7 ex7 => ?_)
    refine lv_istore (lv' := [(6, .int x7), (4, .long x6), (2, .long x5), (0, .ref (xo_a g)), (1, .int k)]) hx hb dA_outs_39 hl (by decide) rfl (fun ls hl => ?_)
    have hloop : ∀ (n : Nat) (a : Int64) (ls : Array Slot), lv_has ls 9 [(6, .int (nI (52 - n))), (4, .long a), (2, .long x5), (0, .ref (xo_a g)), (1, .int k)] → (n ≤ 52) → (∀ ls : Array Slot, lv_has ls 9 [(4, .long (ou_lp T x5 k n a))] → W p l e (headSpec (wd yA_outs bA_outs 9 (some .long)) (rmD 7 1 6)).room s m ([.ref (xo_a g), .int k]).toArray below meth c s.heap [] 0 0 (vx_MQ below (px_Q (if q_seat k then .inl ex_IO else if T k.toNatClampNeg = 0 then .inl ex_IS else if g_bs T < 3 then .inl ex_IS else if 5 - g_bs T = 0 then .inl ex_IS else r_l (g_outs T k))) (px_X (if q_seat k then .inl ex_IO else if T k.toNatClampNeg = 0 then .inl ex_IS else if g_bs T < 3 then .inl ex_IS else if 5 - g_bs T = 0 then .inl ex_IS else r_l (g_outs T k))) ([.ref (xo_a g), .int k]).toArray s 1 6 (fun _ => False)) (F0 m 99 ls [])) → W p l e (headSpec (wd yA_outs bA_outs 9 (some .long)) (rmD 7 1 6)).room s m ([.ref (xo_a g), .int k]).toArray below meth c s.heap [] 0 0 (vx_MQ below (px_Q (if q_seat k then .inl ex_IO else if T k.toNatClampNeg = 0 then .inl ex_IS else if g_bs T < 3 then .inl ex_IS else if 5 - g_bs T = 0 then .inl ex_IS else r_l (g_outs T k))) (px_X (if q_seat k then .inl ex_IO else if T k.toNatClampNeg = 0 then .inl ex_IS else if g_bs T < 3 then .inl ex_IS else if 5 - g_bs T = 0 then .inl ex_IS else r_l (g_outs T k))) ([.ref (xo_a g), .int k]).toArray s 1 6 (fun _ => False)) (F0 m 41 ls []) := by
      intro n
      induction n with
      | zero =>
        intro a ls hl hn K
        refine lv_iload hx hb dA_outs_41 (lv_at hl 0 rfl) ?_
        refine lv_bipush (v := 52) hx hb dA_outs_43 (by decide) ?_
        refine lv_icmp_ge (tgt := 99) hx hb dA_outs_45 (by decide) (fun hc8 => ?_) (fun hc8 => ?_)
        · simp only [ou_lp] at K
          exact K _ (lv_sub hl [1] rfl)
        · exact absurd (by decide) hc8
      | succ n ih =>
        intro a ls hl hn K
        refine lv_iload hx hb dA_outs_41 (lv_at hl 0 rfl) ?_
        refine lv_bipush (v := 52) hx hb dA_outs_43 (by decide) ?_
        refine lv_icmp_ge (tgt := 99) hx hb dA_outs_45 (by decide) (fun hc9 => ?_) (fun hc9 => ?_)
        · exact absurd hc9 (nI_ge (b := 52) (by omega) (by decide))
        · refine lv_lload_n hx hb dA_outs_48 rfl (lv_at hl 2 rfl) ?_
          refine lv_lconst (v := 1) hx hb dA_outs_49 (by decide) ?_
          refine lv_iload hx hb dA_outs_50 (lv_at hl 0 rfl) ?_
          refine jv_lshl hx hb dA_outs_52 ?_
          refine lv_land hx hb dA_outs_53 ?_
          refine jt_topl (fun x10 ex10 => ?_)
          refine lv_lstore (lv' := [(7, .long x10), (6, .int (nI (52 - (n + 1)))), (4, .long a), (2, .long x5), (0, .ref (xo_a g)), (1, .int k)]) hx hb dA_outs_54 hl (by decide) rfl (fun ls hl => ?_)
          refine lv_lload hx hb dA_outs_56 (lv_at hl 0 rfl) ?_
          refine lv_lconst (v := 0) hx hb dA_outs_58 (by decide) ?_
          refine jv_lceq (tgt := 93) hx hb dA_outs_59 dA_outs_60 (by decide) (fun hc11 => ?_) (fun hc11 => ?_)
          · refine jv_iinc (a := 1) hx hb dA_outs_93 hl (k := 1) rfl (by decide) (by decide) (fun x12 ex12 ls hl => ?_)
            have hl : lv_has ls 9 [(6, .int x12), (7, .long x10), (4, .long a), (2, .long x5), (0, .ref (xo_a g)), (1, .int k)] := hl
            refine lv_goto (tgt := 41) hx hb dA_outs_96 (by decide) ?_
            rw [nI_up (by omega)] at ex12
            subst ex12 ex10
            simp only [ou_lp, if_pos hc11] at K
            exact ih _ ls (lv_sub hl [0, 2, 3, 4, 5] rfl) (by omega) K
          · refine lv_aload_n hx hb dA_outs_63 rfl (lv_at hl 4 rfl) ?_
            refine va_get (D := g.1) (ci := 0) (v := .ref (xo_t g)) (C := "HandTables") (T := T_A) (N := 3) hx hb hts (fun w hw => wd_in (u_inA w hw)) hown hK hP 0 rfl rfl 0 (by decide) (hts _ (wd_in (gw_mem 49 rfl rfl))) (fun _ h => h) rfl dA_outs_64 ?_
            refine lv_aload_n hx hb dA_outs_67 rfl (lv_at hl 4 rfl) ?_
            refine va_get (D := g.1) (ci := 0) (v := .ref (xo_t g)) (C := "HandTables") (T := T_A) (N := 3) hx hb hts (fun w hw => wd_in (u_inA w hw)) hown hK hP 0 rfl rfl 0 (by decide) (hts _ (wd_in (gw_mem 49 rfl rfl))) (fun _ h => h) rfl dA_outs_68 ?_
            refine lv_bipush (v := 6) hx hb dA_outs_71 (by decide) ?_
            refine va_lald hx hb hK hP 1 0 rfl rfl (by unfold vp_in; decide) dA_outs_73 ?_
            refine lv_lload hx hb dA_outs_74 (lv_at hl 0 rfl) ?_
            refine lv_lor hx hb dA_outs_76 ?_
            refine pu_S (cA_leadersOn l g T dk dn _) rfl kA_A_leadersOn hS bl_xo hB rfl ⟨Nat.le_of_ble_eq_true rfl, Nat.le_of_ble_eq_true rfl⟩ hl.1 rfl (Nat.le_of_ble_eq_true rfl) ⟨Nat.zero_le _, Nat.zero_le _⟩ dA_outs_77 ?_
            refine lv_iconst (v := 1) hx hb dA_outs_80 (by decide) ?_
            refine lv_iload_n hx hb dA_outs_81 rfl (lv_at hl 5 rfl) ?_
            refine jv_ishl hx hb dA_outs_82 ?_
            refine lv_icmp_ne (tgt := 93) hx hb dA_outs_83 (by decide) (fun hc13 => ?_) (fun hc13 => ?_)
            · refine jv_iinc (a := 1) hx hb dA_outs_93 hl (k := 1) rfl (by decide) (by decide) (fun x14 ex14 ls hl => ?_)
              have hl : lv_has ls 9 [(6, .int x14), (7, .long x10), (4, .long a), (2, .long x5), (0, .ref (xo_a g)), (1, .int k)] := hl
              refine lv_goto (tgt := 41) hx hb dA_outs_96 (by decide) ?_
              rw [nI_up (by omega)] at ex14
              subst ex14 ex10
              simp only [ou_lp, if_neg hc11, if_neg hc13] at K
              exact ih _ ls (lv_sub hl [0, 2, 3, 4, 5] rfl) (by omega) K
            · refine lv_lload hx hb dA_outs_86 (lv_at hl 2 rfl) ?_
              refine lv_lload hx hb dA_outs_88 (lv_at hl 0 rfl) ?_
              refine lv_lor hx hb dA_outs_90 ?_
              refine jt_topl (fun x15 ex15 => ?_)
              refine lv_lstore (lv' := [(4, .long x15), (7, .long x10), (6, .int (nI (52 - (n + 1)))), (2, .long x5), (0, .ref (xo_a g)), (1, .int k)]) hx hb dA_outs_91 hl (by decide) rfl (fun ls hl => ?_)
              refine jv_iinc (a := 1) hx hb dA_outs_93 hl (k := 2) rfl (by decide) (by decide) (fun x16 ex16 ls hl => ?_)
              have hl : lv_has ls 9 [(6, .int x16), (4, .long x15), (7, .long x10), (2, .long x5), (0, .ref (xo_a g)), (1, .int k)] := hl
              refine lv_goto (tgt := 41) hx hb dA_outs_96 (by decide) ?_
              rw [nI_up (by omega)] at ex16
              subst ex16 ex15 ex10
              simp only [ou_lp, if_neg hc11, if_pos hc13] at K
              exact ih _ ls (lv_sub hl [0, 1, 3, 4, 5] rfl) (by omega) K
    refine hloop 52 x6 ls (by have h9 := lv_sub hl [0, 1, 2, 3, 4] rfl; subst ex7; exact h9) (by decide) (fun ls hl => ?_)
    clear hloop
    obtain ⟨y17, ey17⟩ : ∃ z, (ou_lp T x5 k 52 x6) = z := ⟨_, rfl⟩
    rw [ey17] at hl
    refine lv_lload hx hb dA_outs_99 (lv_at hl 0 rfl) ?_
    exact px_lret hx hb hr hlk dA_outs_101 (by subst ey17 ex7 ex6 ex5; (try simp only [if_neg hc1, if_neg hc2, if_neg hc3, if_neg hc4]) <;> rfl)
  · exact px_throw (cls := ex_IS) (text := "the board is full") hx hb hst hown hts hEx (by decide +kernel) (gw_mem 341 rfl rfl) (gw_mem 35 rfl rfl) (by decide) at_IS an_IS ag_IS (by rw [hml]; exact hl.1) dA_outs_20 dA_outs_23 dA_outs_24 dA_outs_26 dA_outs_29 hout (Nat.le_of_ble_eq_true rfl) (Nat.le_of_ble_eq_true rfl) (Nat.le_of_ble_eq_true rfl) (Nat.le_of_ble_eq_true rfl) hlk (by (try simp only [if_neg hc1, if_neg hc2, if_neg hc3, if_pos hc4]) <;> rfl)
set_option maxHeartbeats 4000000 in
set_option maxRecDepth 100000 in
theorem cA_share (l : Launch) (g : xo_E) (T : Nat → Int64) (dk : Nat → Int32) (dn : Int32) (k : Int32) (q : Int32) (hst : l.stackTraces = false)  : px_M l yA_share bA_share 6 (some .int) 7 [.ref (xo_a g), .int k, .int q] (xo_F g T dk dn) (if q_seat k then .inl ex_IO else if 0 ≤ q then (if T k.toNatClampNeg = 0 then .inl ex_IS else if 5 - g_bs T = 0 then r_i (g_share (g_lead T (T (6 : Int32).toNatClampNeg)) k q) else .inl ex_IS) else .inl ex_IA) := by
  refine vx_ofW (cc := bA_share) (maxL := 6) (ret := (some .int)) (by decide) rfl ?_
  intro p e s m args below meth c s₁ BB hml hout hv
  obtain ⟨rfl, hB⟩ := hv
  have hx := BB.exec
  have hb := BB.bytes
  have hr := BB.returns
  have hlk := BB.notSynchronized
  have hts := atoms_spec (ws := wd yA_share bA_share 6 (some .int)) BB.pre
  have hown : s.vm.findClass "HandTables" = some m.cls := findClass_of_methodNamed BB.named
  have hS : CallFix p m c bA_share 6 s _ (wd yA_share bA_share 6 (some .int)) "HandTables" := ⟨hx, hb, hml, hown, hts⟩
  obtain ⟨hTa, hEx, hP, hK⟩ := id hB
  obtain ⟨⟨t1, hT1⟩, ⟨t2, hT2⟩, ⟨t3, hT3⟩, ⟨t4, hT4⟩⟩ := id hTa
  have hl := lv_entry ([.ref (xo_a g), .int k, .int q]) (n := 6) (Nat.le_of_ble_eq_true rfl)
  rw [lg_entry_eq]
  generalize (lg_sl ([.ref (xo_a g), .int k, .int q]) ++ List.replicate (6 - (lg_sl ([.ref (xo_a g), .int k, .int q])).length) Slot.unset).toArray = ls at hl ⊢
  have hl : lv_has ls 6 [(0, .ref (xo_a g)), (1, .int k), (2, .int q)] := hl
  refine lv_iload_n hx hb dA_share_0 rfl (lv_at hl 1 rfl) ?_
  refine px_S (cA_requireSeat l _ hst) rfl kA_A_requireSeat hS bl_ex hEx ⟨Nat.le_of_ble_eq_true rfl, Nat.le_of_ble_eq_true rfl⟩ hl.1 rfl (Nat.le_of_ble_eq_true rfl) ⟨Nat.le_of_ble_eq_true rfl, Nat.le_of_ble_eq_true rfl⟩ dA_share_1 hout hlk (fun E h9 => ?_) (fun v hv => ?_)
  · obtain ⟨hc1, rfl⟩ := ri_then h9
    (try simp only [g_share, if_pos hc1]) <;> rfl
  obtain ⟨hc1, rfl⟩ := ri_else hv
  refine lv_iload_n hx hb dA_share_4 rfl (lv_at hl 2 rfl) ?_
  refine lv_if_ge (tgt := 18) hx hb dA_share_5 (by decide) (fun hc2 => ?_) (fun hc2 => ?_)
  · refine lv_aload_n hx hb dA_share_18 rfl (lv_at hl 0 rfl) ?_
    refine lv_iload_n hx hb dA_share_19 rfl (lv_at hl 1 rfl) ?_
    refine px_V (cA_requireTaken l g T dk dn _ hst (se_in (by assumption))) rfl kA_A_requireTaken hS bl_xo hB (xo_rc hB) ⟨Nat.le_of_ble_eq_true rfl, Nat.le_of_ble_eq_true rfl⟩ hl.1 rfl (Nat.le_of_ble_eq_true rfl) ⟨Nat.le_of_ble_eq_true rfl, Nat.le_of_ble_eq_true rfl⟩ dA_share_20 hout hlk (fun E h9 => ?_) (fun v hv => ?_)
    · obtain ⟨hc3, rfl⟩ := ri_then h9
      (try simp only [g_share, if_neg hc1, if_pos hc2, if_pos hc3]) <;> rfl
    obtain ⟨hc3, rfl⟩ := ri_else hv
    refine lv_aload_n hx hb dA_share_23 rfl (lv_at hl 0 rfl) ?_
    refine pu_V (cA_missing l g T dk dn ) rfl kA_A_missing hS bl_xo hB rfl (xo_rc hB) ⟨Nat.le_of_ble_eq_true rfl, Nat.le_of_ble_eq_true rfl⟩ hl.1 rfl (Nat.le_of_ble_eq_true rfl) ⟨Nat.zero_le _, Nat.zero_le _⟩ dA_share_24 ?_
    refine lv_if_eq (tgt := 40) hx hb dA_share_27 (by decide) (fun hc4 => ?_) (fun hc4 => ?_)
    · refine lv_aload_n hx hb dA_share_40 rfl (lv_at hl 0 rfl) ?_
      refine va_get (D := g.1) (ci := 0) (v := .ref (xo_t g)) (C := "HandTables") (T := T_A) (N := 3) hx hb hts (fun w hw => wd_in (u_inA w hw)) hown hK hP 0 rfl rfl 0 (by decide) (hts _ (wd_in (gw_mem 49 rfl rfl))) (fun _ h => h) rfl dA_share_41 ?_
      refine lv_aload_n hx hb dA_share_44 rfl (lv_at hl 0 rfl) ?_
      refine va_get (D := g.1) (ci := 0) (v := .ref (xo_t g)) (C := "HandTables") (T := T_A) (N := 3) hx hb hts (fun w hw => wd_in (u_inA w hw)) hown hK hP 0 rfl rfl 0 (by decide) (hts _ (wd_in (gw_mem 49 rfl rfl))) (fun _ h => h) rfl dA_share_45 ?_
      refine lv_bipush (v := 6) hx hb dA_share_48 (by decide) ?_
      refine va_lald hx hb hK hP 1 0 rfl rfl (by unfold vp_in; decide) dA_share_50 ?_
      refine pu_S (cA_leadersOn l g T dk dn _) rfl kA_A_leadersOn hS bl_xo hB rfl ⟨Nat.le_of_ble_eq_true rfl, Nat.le_of_ble_eq_true rfl⟩ hl.1 rfl (Nat.le_of_ble_eq_true rfl) ⟨Nat.zero_le _, Nat.zero_le _⟩ dA_share_51 ?_
      refine jt_topi (fun x5 ex5 => ?_)
      refine lv_istore_n (lv' := [(3, .int x5), (0, .ref (xo_a g)), (1, .int k), (2, .int q)]) hx hb dA_share_54 rfl hl (by decide) rfl (fun ls hl => ?_)
      refine lv_iload_n hx hb dA_share_55 rfl (lv_at hl 0 rfl) ?_
      refine pu_S (cI_bitCount l _) rfl kA_I_bitCount hS bl_T trivial rfl ⟨Nat.le_of_ble_eq_true rfl, Nat.le_of_ble_eq_true rfl⟩ hl.1 rfl (Nat.le_of_ble_eq_true rfl) ⟨Nat.zero_le _, Nat.zero_le _⟩ dA_share_56 ?_
      refine jt_topi (fun x6 ex6 => ?_)
      refine lv_istore (lv' := [(4, .int x6), (3, .int x5), (0, .ref (xo_a g)), (1, .int k), (2, .int q)]) hx hb dA_share_59 hl (by decide) rfl (fun ls hl => ?_)
      refine lv_iload hx hb dA_share_61 (lv_at hl 0 rfl) ?_
      refine lv_if_eq (tgt := 74) hx hb dA_share_63 (by decide) (fun hc7 => ?_) (fun hc7 => ?_)
      · refine lv_iconst (v := 0) hx hb dA_share_74 (by decide) ?_
        exact px_iret hx hb hr hlk dA_share_75 (by subst ex6 ex5; (try simp only [g_share, if_neg hc1, if_pos hc2, if_neg hc3, if_pos hc4, if_pos hc7]) <;> rfl)
      · refine lv_iload_n hx hb dA_share_66 rfl (lv_at hl 1 rfl) ?_
        refine lv_iconst (v := 1) hx hb dA_share_67 (by decide) ?_
        refine lv_iload_n hx hb dA_share_68 rfl (lv_at hl 3 rfl) ?_
        refine jv_ishl hx hb dA_share_69 ?_
        refine lv_iand hx hb dA_share_70 ?_
        refine lv_if_ne (tgt := 76) hx hb dA_share_71 (by decide) (fun hc8 => ?_) (fun hc8 => ?_)
        · refine lv_iload_n hx hb dA_share_76 rfl (lv_at hl 1 rfl) ?_
          refine lv_iconst (v := 1) hx hb dA_share_77 (by decide) ?_
          refine lv_iload_n hx hb dA_share_78 rfl (lv_at hl 3 rfl) ?_
          refine jv_ishl hx hb dA_share_79 ?_
          refine lv_iconst (v := 1) hx hb dA_share_80 (by decide) ?_
          refine lv_isub hx hb dA_share_81 ?_
          refine lv_iand hx hb dA_share_82 ?_
          refine pu_S (cI_bitCount l _) rfl kA_I_bitCount hS bl_T trivial rfl ⟨Nat.le_of_ble_eq_true rfl, Nat.le_of_ble_eq_true rfl⟩ hl.1 rfl (Nat.le_of_ble_eq_true rfl) ⟨Nat.zero_le _, Nat.zero_le _⟩ dA_share_83 ?_
          refine jt_topi (fun x9 ex9 => ?_)
          refine lv_istore (lv' := [(5, .int x9), (4, .int x6), (3, .int x5), (0, .ref (xo_a g)), (1, .int k), (2, .int q)]) hx hb dA_share_86 hl (by decide) rfl (fun ls hl => ?_)
          refine lv_iload_n hx hb dA_share_88 rfl (lv_at hl 5 rfl) ?_
          refine lv_iload hx hb dA_share_89 (lv_at hl 1 rfl) ?_
          refine lv_idiv hx hb dA_share_91 (by assumption) ?_
          refine lv_iload hx hb dA_share_92 (lv_at hl 0 rfl) ?_
          refine lv_iload_n hx hb dA_share_94 rfl (lv_at hl 5 rfl) ?_
          refine lv_iload hx hb dA_share_95 (lv_at hl 1 rfl) ?_
          refine jv_irem hx hb dA_share_97 (by assumption) ?_
          refine lv_icmp_ge (tgt := 105) hx hb dA_share_98 (by decide) (fun hc10 => ?_) (fun hc10 => ?_)
          · refine lv_iconst (v := 0) hx hb dA_share_105 (by decide) ?_
            refine lv_iadd hx hb dA_share_106 ?_
            exact px_iret hx hb hr hlk dA_share_107 (by subst ex9 ex6 ex5; (try simp only [g_share, if_neg hc1, if_pos hc2, if_neg hc3, if_pos hc4, if_neg hc7, if_neg hc8, if_pos hc10]) <;> rfl)
          · refine lv_iconst (v := 1) hx hb dA_share_101 (by decide) ?_
            refine lv_goto (tgt := 106) hx hb dA_share_102 (by decide) ?_
            refine lv_iadd hx hb dA_share_106 ?_
            exact px_iret hx hb hr hlk dA_share_107 (by subst ex9 ex6 ex5; (try simp only [g_share, if_neg hc1, if_pos hc2, if_neg hc3, if_pos hc4, if_neg hc7, if_neg hc8, if_neg hc10]) <;> rfl)
        · refine lv_iconst (v := 0) hx hb dA_share_74 (by decide) ?_
          exact px_iret hx hb hr hlk dA_share_75 (by subst ex6 ex5; (try simp only [g_share, if_neg hc1, if_pos hc2, if_neg hc3, if_pos hc4, if_neg hc7, if_pos hc8]) <;> rfl)
    · exact px_throw (cls := ex_IS) (text := "the board is not full") hx hb hst hown hts hEx (by decide +kernel) (gw_mem 341 rfl rfl) (gw_mem 35 rfl rfl) (by decide) at_IS an_IS ag_IS (by rw [hml]; exact hl.1) dA_share_30 dA_share_33 dA_share_34 dA_share_36 dA_share_39 hout (Nat.le_of_ble_eq_true rfl) (Nat.le_of_ble_eq_true rfl) (Nat.le_of_ble_eq_true rfl) (Nat.le_of_ble_eq_true rfl) hlk (by (try simp only [g_share, if_neg hc1, if_pos hc2, if_neg hc3, if_neg hc4]) <;> rfl)
  · exact px_throw (cls := ex_IA) (text := "the pot is below 0") hx hb hst hown hts hEx (by decide +kernel) (gw_mem 97 rfl rfl) (gw_mem 33 rfl rfl) (by decide) at_IA an_IA ag_IA (by rw [hml]; exact hl.1) dA_share_8 dA_share_11 dA_share_12 dA_share_14 dA_share_17 hout (Nat.le_of_ble_eq_true rfl) (Nat.le_of_ble_eq_true rfl) (Nat.le_of_ble_eq_true rfl) (Nat.le_of_ble_eq_true rfl) hlk (by (try simp only [g_share, if_neg hc1, if_neg hc2]) <;> rfl)
set_option maxHeartbeats 4000000 in
set_option maxRecDepth 100000 in
theorem cA_wins_0 (l : Launch) (g : xo_E) (T : Nat → Int64) (dk : Nat → Int32) (dn : Int32) (k : Int32) (w : Int32) (hst : l.stackTraces = false) (hb5 : 5 - g_bs T = nI 0) : px_M l yA_wins bA_wins 3 (some .int) 9 [.ref (xo_a g), .int k, .int w] (xo_F g T dk dn) (if q_seat k then .inl ex_IO else if w = 0 then (if T k.toNatClampNeg = 0 then .inl ex_IS else if g_bs T < 3 then .inl ex_IS else r_i (g_cb T k 0 0 (T (6 : Int32).toNatClampNeg) (g_free T))) else if w = 1 then (if T k.toNatClampNeg = 0 then .inl ex_IS else if g_bs T < 3 then .inl ex_IS else r_i (g_cb T k 1 0 (T (6 : Int32).toNatClampNeg) (g_free T))) else .inl ex_IA) := by
  refine vx_ofW (cc := bA_wins) (maxL := 3) (ret := (some .int)) (by decide) rfl ?_
  intro p e s m args below meth c s₁ BB hml hout hv
  obtain ⟨rfl, hB⟩ := hv
  have hx := BB.exec
  have hb := BB.bytes
  have hr := BB.returns
  have hlk := BB.notSynchronized
  have hts := atoms_spec (ws := wd yA_wins bA_wins 3 (some .int)) BB.pre
  have hown : s.vm.findClass "HandTables" = some m.cls := findClass_of_methodNamed BB.named
  have hS : CallFix p m c bA_wins 3 s _ (wd yA_wins bA_wins 3 (some .int)) "HandTables" := ⟨hx, hb, hml, hown, hts⟩
  obtain ⟨hTa, hEx, hP, hK⟩ := id hB
  obtain ⟨⟨t1, hT1⟩, ⟨t2, hT2⟩, ⟨t3, hT3⟩, ⟨t4, hT4⟩⟩ := id hTa
  have hl := lv_entry ([.ref (xo_a g), .int k, .int w]) (n := 3) (Nat.le_of_ble_eq_true rfl)
  rw [lg_entry_eq]
  generalize (lg_sl ([.ref (xo_a g), .int k, .int w]) ++ List.replicate (3 - (lg_sl ([.ref (xo_a g), .int k, .int w])).length) Slot.unset).toArray = ls at hl ⊢
  have hl : lv_has ls 3 [(0, .ref (xo_a g)), (1, .int k), (2, .int w)] := hl
  refine lv_iload_n hx hb dA_wins_0 rfl (lv_at hl 1 rfl) ?_
  refine px_S (cA_requireSeat l _ hst) rfl kA_A_requireSeat hS bl_ex hEx ⟨Nat.le_of_ble_eq_true rfl, Nat.le_of_ble_eq_true rfl⟩ hl.1 rfl (Nat.le_of_ble_eq_true rfl) ⟨Nat.le_of_ble_eq_true rfl, Nat.le_of_ble_eq_true rfl⟩ dA_wins_1 hout hlk (fun E h9 => ?_) (fun v hv => ?_)
  · obtain ⟨hc1, rfl⟩ := ri_then h9
    (try simp only [if_pos hc1]) <;> rfl
  obtain ⟨hc1, rfl⟩ := ri_else hv
  refine lv_iload_n hx hb dA_wins_4 rfl (lv_at hl 2 rfl) ?_
  refine lv_if_eq (tgt := 23) hx hb dA_wins_5 (by decide) (fun hc2 => ?_) (fun hc2 => ?_)
  · refine lv_aload_n hx hb dA_wins_23 rfl (lv_at hl 0 rfl) ?_
    refine lv_iload_n hx hb dA_wins_24 rfl (lv_at hl 1 rfl) ?_
    refine px_V (cA_requireTaken l g T dk dn _ hst (se_in (by assumption))) rfl kA_A_requireTaken hS bl_xo hB (xo_rc hB) ⟨Nat.le_of_ble_eq_true rfl, Nat.le_of_ble_eq_true rfl⟩ hl.1 rfl (Nat.le_of_ble_eq_true rfl) ⟨Nat.le_of_ble_eq_true rfl, Nat.le_of_ble_eq_true rfl⟩ dA_wins_25 hout hlk (fun E h9 => ?_) (fun v hv => ?_)
    · obtain ⟨hc3, rfl⟩ := ri_then h9
      (try simp only [if_neg hc1, if_pos hc2, if_pos hc3]) <;> rfl
    obtain ⟨hc3, rfl⟩ := ri_else hv
    refine lv_aload_n hx hb dA_wins_28 rfl (lv_at hl 0 rfl) ?_
    refine px_V (cA_requireThreeOnBoard l g T dk dn  hst) rfl kA_A_requireThreeOnBoard hS bl_xo hB (xo_rc hB) ⟨Nat.le_of_ble_eq_true rfl, Nat.le_of_ble_eq_true rfl⟩ hl.1 rfl (Nat.le_of_ble_eq_true rfl) ⟨Nat.le_of_ble_eq_true rfl, Nat.le_of_ble_eq_true rfl⟩ dA_wins_29 hout hlk (fun E h9 => ?_) (fun v hv => ?_)
    · obtain ⟨hc4, rfl⟩ := ri_then h9
      (try simp only [if_neg hc1, if_pos hc2, if_neg hc3, if_pos hc4]) <;> rfl
    obtain ⟨hc4, rfl⟩ := ri_else hv
    refine lv_aload_n hx hb dA_wins_32 rfl (lv_at hl 0 rfl) ?_
    refine va_get (D := g.1) (ci := 0) (v := .ref (xo_t g)) (C := "HandTables") (T := T_A) (N := 3) hx hb hts (fun w hw => wd_in (u_inA w hw)) hown hK hP 0 rfl rfl 0 (by decide) (hts _ (wd_in (gw_mem 49 rfl rfl))) (fun _ h => h) rfl dA_wins_33 ?_
    refine lv_iload_n hx hb dA_wins_36 rfl (lv_at hl 1 rfl) ?_
    refine lv_iload_n hx hb dA_wins_37 rfl (lv_at hl 2 rfl) ?_
    refine lv_iconst (v := 1) hx hb dA_wins_38 (by decide) ?_
    refine lv_icmp_ne (tgt := 46) hx hb dA_wins_39 (by decide) (fun hc5 => ?_) (fun hc5 => ?_)
    · refine lv_iconst (v := 0) hx hb dA_wins_46 (by decide) ?_
      refine lv_aload_n hx hb dA_wins_47 rfl (lv_at hl 0 rfl) ?_
      refine va_get (D := g.1) (ci := 0) (v := .ref (xo_t g)) (C := "HandTables") (T := T_A) (N := 3) hx hb hts (fun w hw => wd_in (u_inA w hw)) hown hK hP 0 rfl rfl 0 (by decide) (hts _ (wd_in (gw_mem 49 rfl rfl))) (fun _ h => h) rfl dA_wins_48 ?_
      refine lv_bipush (v := 6) hx hb dA_wins_51 (by decide) ?_
      refine va_lald hx hb hK hP 1 0 rfl rfl (by unfold vp_in; decide) dA_wins_53 ?_
      refine lv_aload_n hx hb dA_wins_54 rfl (lv_at hl 0 rfl) ?_
      refine pu_V (cA_free l g T dk dn ) rfl kA_A_free hS bl_xo hB rfl (xo_rc hB) ⟨Nat.le_of_ble_eq_true rfl, Nat.le_of_ble_eq_true rfl⟩ hl.1 rfl (Nat.le_of_ble_eq_true rfl) ⟨Nat.zero_le _, Nat.zero_le _⟩ dA_wins_55 ?_
      refine lv_aload_n hx hb dA_wins_58 rfl (lv_at hl 0 rfl) ?_
      refine pu_V (cA_missing l g T dk dn ) rfl kA_A_missing hS bl_xo hB rfl (xo_rc hB) ⟨Nat.le_of_ble_eq_true rfl, Nat.le_of_ble_eq_true rfl⟩ hl.1 rfl (Nat.le_of_ble_eq_true rfl) ⟨Nat.zero_le _, Nat.zero_le _⟩ dA_wins_59 ?_
      refine lv_topi (fun xm exm => ?_)
      have exm : xm = nI 0 := exm.trans hb5
      subst exm
      refine pu_S (cA_countBoards_0 l g T dk dn _ _ _ _) rfl kA_A_countBoards hS bl_xo hB rfl ⟨Nat.le_of_ble_eq_true rfl, Nat.le_of_ble_eq_true rfl⟩ hl.1 rfl (Nat.le_of_ble_eq_true rfl) ⟨Nat.zero_le _, Nat.zero_le _⟩ dA_wins_62 ?_
      exact px_iret hx hb hr hlk dA_wins_65 (by (try simp only [if_neg hc1, if_pos hc2, if_neg hc3, if_neg hc4]) <;> rfl)
    · exact absurd (hc2.symm.trans hc5) (by decide)
  · refine lv_iload_n hx hb dA_wins_8 rfl (lv_at hl 2 rfl) ?_
    refine lv_iconst (v := 1) hx hb dA_wins_9 (by decide) ?_
    refine lv_icmp_eq (tgt := 23) hx hb dA_wins_10 (by decide) (fun hc6 => ?_) (fun hc6 => ?_)
    · refine lv_aload_n hx hb dA_wins_23 rfl (lv_at hl 0 rfl) ?_
      refine lv_iload_n hx hb dA_wins_24 rfl (lv_at hl 1 rfl) ?_
      refine px_V (cA_requireTaken l g T dk dn _ hst (se_in (by assumption))) rfl kA_A_requireTaken hS bl_xo hB (xo_rc hB) ⟨Nat.le_of_ble_eq_true rfl, Nat.le_of_ble_eq_true rfl⟩ hl.1 rfl (Nat.le_of_ble_eq_true rfl) ⟨Nat.le_of_ble_eq_true rfl, Nat.le_of_ble_eq_true rfl⟩ dA_wins_25 hout hlk (fun E h9 => ?_) (fun v hv => ?_)
      · obtain ⟨hc7, rfl⟩ := ri_then h9
        (try simp only [if_neg hc1, if_neg hc2, if_pos hc6, if_pos hc7]) <;> rfl
      obtain ⟨hc7, rfl⟩ := ri_else hv
      refine lv_aload_n hx hb dA_wins_28 rfl (lv_at hl 0 rfl) ?_
      refine px_V (cA_requireThreeOnBoard l g T dk dn  hst) rfl kA_A_requireThreeOnBoard hS bl_xo hB (xo_rc hB) ⟨Nat.le_of_ble_eq_true rfl, Nat.le_of_ble_eq_true rfl⟩ hl.1 rfl (Nat.le_of_ble_eq_true rfl) ⟨Nat.le_of_ble_eq_true rfl, Nat.le_of_ble_eq_true rfl⟩ dA_wins_29 hout hlk (fun E h9 => ?_) (fun v hv => ?_)
      · obtain ⟨hc8, rfl⟩ := ri_then h9
        (try simp only [if_neg hc1, if_neg hc2, if_pos hc6, if_neg hc7, if_pos hc8]) <;> rfl
      obtain ⟨hc8, rfl⟩ := ri_else hv
      refine lv_aload_n hx hb dA_wins_32 rfl (lv_at hl 0 rfl) ?_
      refine va_get (D := g.1) (ci := 0) (v := .ref (xo_t g)) (C := "HandTables") (T := T_A) (N := 3) hx hb hts (fun w hw => wd_in (u_inA w hw)) hown hK hP 0 rfl rfl 0 (by decide) (hts _ (wd_in (gw_mem 49 rfl rfl))) (fun _ h => h) rfl dA_wins_33 ?_
      refine lv_iload_n hx hb dA_wins_36 rfl (lv_at hl 1 rfl) ?_
      refine lv_iload_n hx hb dA_wins_37 rfl (lv_at hl 2 rfl) ?_
      refine lv_iconst (v := 1) hx hb dA_wins_38 (by decide) ?_
      refine lv_icmp_ne (tgt := 46) hx hb dA_wins_39 (by decide) (fun hc9 => ?_) (fun hc9 => ?_)
      · exact absurd hc6 hc9
      · refine lv_iconst (v := 1) hx hb dA_wins_42 (by decide) ?_
        refine lv_goto (tgt := 47) hx hb dA_wins_43 (by decide) ?_
        refine lv_aload_n hx hb dA_wins_47 rfl (lv_at hl 0 rfl) ?_
        refine va_get (D := g.1) (ci := 0) (v := .ref (xo_t g)) (C := "HandTables") (T := T_A) (N := 3) hx hb hts (fun w hw => wd_in (u_inA w hw)) hown hK hP 0 rfl rfl 0 (by decide) (hts _ (wd_in (gw_mem 49 rfl rfl))) (fun _ h => h) rfl dA_wins_48 ?_
        refine lv_bipush (v := 6) hx hb dA_wins_51 (by decide) ?_
        refine va_lald hx hb hK hP 1 0 rfl rfl (by unfold vp_in; decide) dA_wins_53 ?_
        refine lv_aload_n hx hb dA_wins_54 rfl (lv_at hl 0 rfl) ?_
        refine pu_V (cA_free l g T dk dn ) rfl kA_A_free hS bl_xo hB rfl (xo_rc hB) ⟨Nat.le_of_ble_eq_true rfl, Nat.le_of_ble_eq_true rfl⟩ hl.1 rfl (Nat.le_of_ble_eq_true rfl) ⟨Nat.zero_le _, Nat.zero_le _⟩ dA_wins_55 ?_
        refine lv_aload_n hx hb dA_wins_58 rfl (lv_at hl 0 rfl) ?_
        refine pu_V (cA_missing l g T dk dn ) rfl kA_A_missing hS bl_xo hB rfl (xo_rc hB) ⟨Nat.le_of_ble_eq_true rfl, Nat.le_of_ble_eq_true rfl⟩ hl.1 rfl (Nat.le_of_ble_eq_true rfl) ⟨Nat.zero_le _, Nat.zero_le _⟩ dA_wins_59 ?_
        refine lv_topi (fun xm exm => ?_)
        have exm : xm = nI 0 := exm.trans hb5
        subst exm
        refine pu_S (cA_countBoards_0 l g T dk dn _ _ _ _) rfl kA_A_countBoards hS bl_xo hB rfl ⟨Nat.le_of_ble_eq_true rfl, Nat.le_of_ble_eq_true rfl⟩ hl.1 rfl (Nat.le_of_ble_eq_true rfl) ⟨Nat.zero_le _, Nat.zero_le _⟩ dA_wins_62 ?_
        exact px_iret hx hb hr hlk dA_wins_65 (by (try simp only [if_neg hc1, if_neg hc2, if_pos hc6, if_neg hc7, if_neg hc8]) <;> rfl)
    · exact px_throw (cls := ex_IA) (text := "neither wins nor shares") hx hb hst hown hts hEx (by decide +kernel) (gw_mem 97 rfl rfl) (gw_mem 33 rfl rfl) (by decide) at_IA an_IA ag_IA (by rw [hml]; exact hl.1) dA_wins_13 dA_wins_16 dA_wins_17 dA_wins_19 dA_wins_22 hout (Nat.le_of_ble_eq_true rfl) (Nat.le_of_ble_eq_true rfl) (Nat.le_of_ble_eq_true rfl) (Nat.le_of_ble_eq_true rfl) hlk (by (try simp only [if_neg hc1, if_neg hc2, if_neg hc6]) <;> rfl)
set_option maxHeartbeats 4000000 in
set_option maxRecDepth 100000 in
theorem cA_wins_1 (l : Launch) (g : xo_E) (T : Nat → Int64) (dk : Nat → Int32) (dn : Int32) (k : Int32) (w : Int32) (hst : l.stackTraces = false) (hb5 : 5 - g_bs T = nI 1) : px_M l yA_wins bA_wins 3 (some .int) 9 [.ref (xo_a g), .int k, .int w] (xo_F g T dk dn) (if q_seat k then .inl ex_IO else if w = 0 then (if T k.toNatClampNeg = 0 then .inl ex_IS else if g_bs T < 3 then .inl ex_IS else r_i (g_cb T k 0 1 (T (6 : Int32).toNatClampNeg) (g_free T))) else if w = 1 then (if T k.toNatClampNeg = 0 then .inl ex_IS else if g_bs T < 3 then .inl ex_IS else r_i (g_cb T k 1 1 (T (6 : Int32).toNatClampNeg) (g_free T))) else .inl ex_IA) := by
  refine vx_ofW (cc := bA_wins) (maxL := 3) (ret := (some .int)) (by decide) rfl ?_
  intro p e s m args below meth c s₁ BB hml hout hv
  obtain ⟨rfl, hB⟩ := hv
  have hx := BB.exec
  have hb := BB.bytes
  have hr := BB.returns
  have hlk := BB.notSynchronized
  have hts := atoms_spec (ws := wd yA_wins bA_wins 3 (some .int)) BB.pre
  have hown : s.vm.findClass "HandTables" = some m.cls := findClass_of_methodNamed BB.named
  have hS : CallFix p m c bA_wins 3 s _ (wd yA_wins bA_wins 3 (some .int)) "HandTables" := ⟨hx, hb, hml, hown, hts⟩
  obtain ⟨hTa, hEx, hP, hK⟩ := id hB
  obtain ⟨⟨t1, hT1⟩, ⟨t2, hT2⟩, ⟨t3, hT3⟩, ⟨t4, hT4⟩⟩ := id hTa
  have hl := lv_entry ([.ref (xo_a g), .int k, .int w]) (n := 3) (Nat.le_of_ble_eq_true rfl)
  rw [lg_entry_eq]
  generalize (lg_sl ([.ref (xo_a g), .int k, .int w]) ++ List.replicate (3 - (lg_sl ([.ref (xo_a g), .int k, .int w])).length) Slot.unset).toArray = ls at hl ⊢
  have hl : lv_has ls 3 [(0, .ref (xo_a g)), (1, .int k), (2, .int w)] := hl
  refine lv_iload_n hx hb dA_wins_0 rfl (lv_at hl 1 rfl) ?_
  refine px_S (cA_requireSeat l _ hst) rfl kA_A_requireSeat hS bl_ex hEx ⟨Nat.le_of_ble_eq_true rfl, Nat.le_of_ble_eq_true rfl⟩ hl.1 rfl (Nat.le_of_ble_eq_true rfl) ⟨Nat.le_of_ble_eq_true rfl, Nat.le_of_ble_eq_true rfl⟩ dA_wins_1 hout hlk (fun E h9 => ?_) (fun v hv => ?_)
  · obtain ⟨hc1, rfl⟩ := ri_then h9
    (try simp only [if_pos hc1]) <;> rfl
  obtain ⟨hc1, rfl⟩ := ri_else hv
  refine lv_iload_n hx hb dA_wins_4 rfl (lv_at hl 2 rfl) ?_
  refine lv_if_eq (tgt := 23) hx hb dA_wins_5 (by decide) (fun hc2 => ?_) (fun hc2 => ?_)
  · refine lv_aload_n hx hb dA_wins_23 rfl (lv_at hl 0 rfl) ?_
    refine lv_iload_n hx hb dA_wins_24 rfl (lv_at hl 1 rfl) ?_
    refine px_V (cA_requireTaken l g T dk dn _ hst (se_in (by assumption))) rfl kA_A_requireTaken hS bl_xo hB (xo_rc hB) ⟨Nat.le_of_ble_eq_true rfl, Nat.le_of_ble_eq_true rfl⟩ hl.1 rfl (Nat.le_of_ble_eq_true rfl) ⟨Nat.le_of_ble_eq_true rfl, Nat.le_of_ble_eq_true rfl⟩ dA_wins_25 hout hlk (fun E h9 => ?_) (fun v hv => ?_)
    · obtain ⟨hc3, rfl⟩ := ri_then h9
      (try simp only [if_neg hc1, if_pos hc2, if_pos hc3]) <;> rfl
    obtain ⟨hc3, rfl⟩ := ri_else hv
    refine lv_aload_n hx hb dA_wins_28 rfl (lv_at hl 0 rfl) ?_
    refine px_V (cA_requireThreeOnBoard l g T dk dn  hst) rfl kA_A_requireThreeOnBoard hS bl_xo hB (xo_rc hB) ⟨Nat.le_of_ble_eq_true rfl, Nat.le_of_ble_eq_true rfl⟩ hl.1 rfl (Nat.le_of_ble_eq_true rfl) ⟨Nat.le_of_ble_eq_true rfl, Nat.le_of_ble_eq_true rfl⟩ dA_wins_29 hout hlk (fun E h9 => ?_) (fun v hv => ?_)
    · obtain ⟨hc4, rfl⟩ := ri_then h9
      (try simp only [if_neg hc1, if_pos hc2, if_neg hc3, if_pos hc4]) <;> rfl
    obtain ⟨hc4, rfl⟩ := ri_else hv
    refine lv_aload_n hx hb dA_wins_32 rfl (lv_at hl 0 rfl) ?_
    refine va_get (D := g.1) (ci := 0) (v := .ref (xo_t g)) (C := "HandTables") (T := T_A) (N := 3) hx hb hts (fun w hw => wd_in (u_inA w hw)) hown hK hP 0 rfl rfl 0 (by decide) (hts _ (wd_in (gw_mem 49 rfl rfl))) (fun _ h => h) rfl dA_wins_33 ?_
    refine lv_iload_n hx hb dA_wins_36 rfl (lv_at hl 1 rfl) ?_
    refine lv_iload_n hx hb dA_wins_37 rfl (lv_at hl 2 rfl) ?_
    refine lv_iconst (v := 1) hx hb dA_wins_38 (by decide) ?_
    refine lv_icmp_ne (tgt := 46) hx hb dA_wins_39 (by decide) (fun hc5 => ?_) (fun hc5 => ?_)
    · refine lv_iconst (v := 0) hx hb dA_wins_46 (by decide) ?_
      refine lv_aload_n hx hb dA_wins_47 rfl (lv_at hl 0 rfl) ?_
      refine va_get (D := g.1) (ci := 0) (v := .ref (xo_t g)) (C := "HandTables") (T := T_A) (N := 3) hx hb hts (fun w hw => wd_in (u_inA w hw)) hown hK hP 0 rfl rfl 0 (by decide) (hts _ (wd_in (gw_mem 49 rfl rfl))) (fun _ h => h) rfl dA_wins_48 ?_
      refine lv_bipush (v := 6) hx hb dA_wins_51 (by decide) ?_
      refine va_lald hx hb hK hP 1 0 rfl rfl (by unfold vp_in; decide) dA_wins_53 ?_
      refine lv_aload_n hx hb dA_wins_54 rfl (lv_at hl 0 rfl) ?_
      refine pu_V (cA_free l g T dk dn ) rfl kA_A_free hS bl_xo hB rfl (xo_rc hB) ⟨Nat.le_of_ble_eq_true rfl, Nat.le_of_ble_eq_true rfl⟩ hl.1 rfl (Nat.le_of_ble_eq_true rfl) ⟨Nat.zero_le _, Nat.zero_le _⟩ dA_wins_55 ?_
      refine lv_aload_n hx hb dA_wins_58 rfl (lv_at hl 0 rfl) ?_
      refine pu_V (cA_missing l g T dk dn ) rfl kA_A_missing hS bl_xo hB rfl (xo_rc hB) ⟨Nat.le_of_ble_eq_true rfl, Nat.le_of_ble_eq_true rfl⟩ hl.1 rfl (Nat.le_of_ble_eq_true rfl) ⟨Nat.zero_le _, Nat.zero_le _⟩ dA_wins_59 ?_
      refine lv_topi (fun xm exm => ?_)
      have exm : xm = nI 1 := exm.trans hb5
      subst exm
      refine pu_S (cA_countBoards_1 l g T dk dn _ _ _ _) rfl kA_A_countBoards hS bl_xo hB rfl ⟨Nat.le_of_ble_eq_true rfl, Nat.le_of_ble_eq_true rfl⟩ hl.1 rfl (Nat.le_of_ble_eq_true rfl) ⟨Nat.zero_le _, Nat.zero_le _⟩ dA_wins_62 ?_
      exact px_iret hx hb hr hlk dA_wins_65 (by (try simp only [if_neg hc1, if_pos hc2, if_neg hc3, if_neg hc4]) <;> rfl)
    · exact absurd (hc2.symm.trans hc5) (by decide)
  · refine lv_iload_n hx hb dA_wins_8 rfl (lv_at hl 2 rfl) ?_
    refine lv_iconst (v := 1) hx hb dA_wins_9 (by decide) ?_
    refine lv_icmp_eq (tgt := 23) hx hb dA_wins_10 (by decide) (fun hc6 => ?_) (fun hc6 => ?_)
    · refine lv_aload_n hx hb dA_wins_23 rfl (lv_at hl 0 rfl) ?_
      refine lv_iload_n hx hb dA_wins_24 rfl (lv_at hl 1 rfl) ?_
      refine px_V (cA_requireTaken l g T dk dn _ hst (se_in (by assumption))) rfl kA_A_requireTaken hS bl_xo hB (xo_rc hB) ⟨Nat.le_of_ble_eq_true rfl, Nat.le_of_ble_eq_true rfl⟩ hl.1 rfl (Nat.le_of_ble_eq_true rfl) ⟨Nat.le_of_ble_eq_true rfl, Nat.le_of_ble_eq_true rfl⟩ dA_wins_25 hout hlk (fun E h9 => ?_) (fun v hv => ?_)
      · obtain ⟨hc7, rfl⟩ := ri_then h9
        (try simp only [if_neg hc1, if_neg hc2, if_pos hc6, if_pos hc7]) <;> rfl
      obtain ⟨hc7, rfl⟩ := ri_else hv
      refine lv_aload_n hx hb dA_wins_28 rfl (lv_at hl 0 rfl) ?_
      refine px_V (cA_requireThreeOnBoard l g T dk dn  hst) rfl kA_A_requireThreeOnBoard hS bl_xo hB (xo_rc hB) ⟨Nat.le_of_ble_eq_true rfl, Nat.le_of_ble_eq_true rfl⟩ hl.1 rfl (Nat.le_of_ble_eq_true rfl) ⟨Nat.le_of_ble_eq_true rfl, Nat.le_of_ble_eq_true rfl⟩ dA_wins_29 hout hlk (fun E h9 => ?_) (fun v hv => ?_)
      · obtain ⟨hc8, rfl⟩ := ri_then h9
        (try simp only [if_neg hc1, if_neg hc2, if_pos hc6, if_neg hc7, if_pos hc8]) <;> rfl
      obtain ⟨hc8, rfl⟩ := ri_else hv
      refine lv_aload_n hx hb dA_wins_32 rfl (lv_at hl 0 rfl) ?_
      refine va_get (D := g.1) (ci := 0) (v := .ref (xo_t g)) (C := "HandTables") (T := T_A) (N := 3) hx hb hts (fun w hw => wd_in (u_inA w hw)) hown hK hP 0 rfl rfl 0 (by decide) (hts _ (wd_in (gw_mem 49 rfl rfl))) (fun _ h => h) rfl dA_wins_33 ?_
      refine lv_iload_n hx hb dA_wins_36 rfl (lv_at hl 1 rfl) ?_
      refine lv_iload_n hx hb dA_wins_37 rfl (lv_at hl 2 rfl) ?_
      refine lv_iconst (v := 1) hx hb dA_wins_38 (by decide) ?_
      refine lv_icmp_ne (tgt := 46) hx hb dA_wins_39 (by decide) (fun hc9 => ?_) (fun hc9 => ?_)
      · exact absurd hc6 hc9
      · refine lv_iconst (v := 1) hx hb dA_wins_42 (by decide) ?_
        refine lv_goto (tgt := 47) hx hb dA_wins_43 (by decide) ?_
        refine lv_aload_n hx hb dA_wins_47 rfl (lv_at hl 0 rfl) ?_
        refine va_get (D := g.1) (ci := 0) (v := .ref (xo_t g)) (C := "HandTables") (T := T_A) (N := 3) hx hb hts (fun w hw => wd_in (u_inA w hw)) hown hK hP 0 rfl rfl 0 (by decide) (hts _ (wd_in (gw_mem 49 rfl rfl))) (fun _ h => h) rfl dA_wins_48 ?_
        refine lv_bipush (v := 6) hx hb dA_wins_51 (by decide) ?_
        refine va_lald hx hb hK hP 1 0 rfl rfl (by unfold vp_in; decide) dA_wins_53 ?_
        refine lv_aload_n hx hb dA_wins_54 rfl (lv_at hl 0 rfl) ?_
        refine pu_V (cA_free l g T dk dn ) rfl kA_A_free hS bl_xo hB rfl (xo_rc hB) ⟨Nat.le_of_ble_eq_true rfl, Nat.le_of_ble_eq_true rfl⟩ hl.1 rfl (Nat.le_of_ble_eq_true rfl) ⟨Nat.zero_le _, Nat.zero_le _⟩ dA_wins_55 ?_
        refine lv_aload_n hx hb dA_wins_58 rfl (lv_at hl 0 rfl) ?_
        refine pu_V (cA_missing l g T dk dn ) rfl kA_A_missing hS bl_xo hB rfl (xo_rc hB) ⟨Nat.le_of_ble_eq_true rfl, Nat.le_of_ble_eq_true rfl⟩ hl.1 rfl (Nat.le_of_ble_eq_true rfl) ⟨Nat.zero_le _, Nat.zero_le _⟩ dA_wins_59 ?_
        refine lv_topi (fun xm exm => ?_)
        have exm : xm = nI 1 := exm.trans hb5
        subst exm
        refine pu_S (cA_countBoards_1 l g T dk dn _ _ _ _) rfl kA_A_countBoards hS bl_xo hB rfl ⟨Nat.le_of_ble_eq_true rfl, Nat.le_of_ble_eq_true rfl⟩ hl.1 rfl (Nat.le_of_ble_eq_true rfl) ⟨Nat.zero_le _, Nat.zero_le _⟩ dA_wins_62 ?_
        exact px_iret hx hb hr hlk dA_wins_65 (by (try simp only [if_neg hc1, if_neg hc2, if_pos hc6, if_neg hc7, if_neg hc8]) <;> rfl)
    · exact px_throw (cls := ex_IA) (text := "neither wins nor shares") hx hb hst hown hts hEx (by decide +kernel) (gw_mem 97 rfl rfl) (gw_mem 33 rfl rfl) (by decide) at_IA an_IA ag_IA (by rw [hml]; exact hl.1) dA_wins_13 dA_wins_16 dA_wins_17 dA_wins_19 dA_wins_22 hout (Nat.le_of_ble_eq_true rfl) (Nat.le_of_ble_eq_true rfl) (Nat.le_of_ble_eq_true rfl) (Nat.le_of_ble_eq_true rfl) hlk (by (try simp only [if_neg hc1, if_neg hc2, if_neg hc6]) <;> rfl)
set_option maxHeartbeats 4000000 in
set_option maxRecDepth 100000 in
theorem cA_wins_2 (l : Launch) (g : xo_E) (T : Nat → Int64) (dk : Nat → Int32) (dn : Int32) (k : Int32) (w : Int32) (hst : l.stackTraces = false) (hb5 : 5 - g_bs T = nI 2) : px_M l yA_wins bA_wins 3 (some .int) 9 [.ref (xo_a g), .int k, .int w] (xo_F g T dk dn) (if q_seat k then .inl ex_IO else if w = 0 then (if T k.toNatClampNeg = 0 then .inl ex_IS else if g_bs T < 3 then .inl ex_IS else r_i (g_cb T k 0 2 (T (6 : Int32).toNatClampNeg) (g_free T))) else if w = 1 then (if T k.toNatClampNeg = 0 then .inl ex_IS else if g_bs T < 3 then .inl ex_IS else r_i (g_cb T k 1 2 (T (6 : Int32).toNatClampNeg) (g_free T))) else .inl ex_IA) := by
  refine vx_ofW (cc := bA_wins) (maxL := 3) (ret := (some .int)) (by decide) rfl ?_
  intro p e s m args below meth c s₁ BB hml hout hv
  obtain ⟨rfl, hB⟩ := hv
  have hx := BB.exec
  have hb := BB.bytes
  have hr := BB.returns
  have hlk := BB.notSynchronized
  have hts := atoms_spec (ws := wd yA_wins bA_wins 3 (some .int)) BB.pre
  have hown : s.vm.findClass "HandTables" = some m.cls := findClass_of_methodNamed BB.named
  have hS : CallFix p m c bA_wins 3 s _ (wd yA_wins bA_wins 3 (some .int)) "HandTables" := ⟨hx, hb, hml, hown, hts⟩
  obtain ⟨hTa, hEx, hP, hK⟩ := id hB
  obtain ⟨⟨t1, hT1⟩, ⟨t2, hT2⟩, ⟨t3, hT3⟩, ⟨t4, hT4⟩⟩ := id hTa
  have hl := lv_entry ([.ref (xo_a g), .int k, .int w]) (n := 3) (Nat.le_of_ble_eq_true rfl)
  rw [lg_entry_eq]
  generalize (lg_sl ([.ref (xo_a g), .int k, .int w]) ++ List.replicate (3 - (lg_sl ([.ref (xo_a g), .int k, .int w])).length) Slot.unset).toArray = ls at hl ⊢
  have hl : lv_has ls 3 [(0, .ref (xo_a g)), (1, .int k), (2, .int w)] := hl
  refine lv_iload_n hx hb dA_wins_0 rfl (lv_at hl 1 rfl) ?_
  refine px_S (cA_requireSeat l _ hst) rfl kA_A_requireSeat hS bl_ex hEx ⟨Nat.le_of_ble_eq_true rfl, Nat.le_of_ble_eq_true rfl⟩ hl.1 rfl (Nat.le_of_ble_eq_true rfl) ⟨Nat.le_of_ble_eq_true rfl, Nat.le_of_ble_eq_true rfl⟩ dA_wins_1 hout hlk (fun E h9 => ?_) (fun v hv => ?_)
  · obtain ⟨hc1, rfl⟩ := ri_then h9
    (try simp only [if_pos hc1]) <;> rfl
  obtain ⟨hc1, rfl⟩ := ri_else hv
  refine lv_iload_n hx hb dA_wins_4 rfl (lv_at hl 2 rfl) ?_
  refine lv_if_eq (tgt := 23) hx hb dA_wins_5 (by decide) (fun hc2 => ?_) (fun hc2 => ?_)
  · refine lv_aload_n hx hb dA_wins_23 rfl (lv_at hl 0 rfl) ?_
    refine lv_iload_n hx hb dA_wins_24 rfl (lv_at hl 1 rfl) ?_
    refine px_V (cA_requireTaken l g T dk dn _ hst (se_in (by assumption))) rfl kA_A_requireTaken hS bl_xo hB (xo_rc hB) ⟨Nat.le_of_ble_eq_true rfl, Nat.le_of_ble_eq_true rfl⟩ hl.1 rfl (Nat.le_of_ble_eq_true rfl) ⟨Nat.le_of_ble_eq_true rfl, Nat.le_of_ble_eq_true rfl⟩ dA_wins_25 hout hlk (fun E h9 => ?_) (fun v hv => ?_)
    · obtain ⟨hc3, rfl⟩ := ri_then h9
      (try simp only [if_neg hc1, if_pos hc2, if_pos hc3]) <;> rfl
    obtain ⟨hc3, rfl⟩ := ri_else hv
    refine lv_aload_n hx hb dA_wins_28 rfl (lv_at hl 0 rfl) ?_
    refine px_V (cA_requireThreeOnBoard l g T dk dn  hst) rfl kA_A_requireThreeOnBoard hS bl_xo hB (xo_rc hB) ⟨Nat.le_of_ble_eq_true rfl, Nat.le_of_ble_eq_true rfl⟩ hl.1 rfl (Nat.le_of_ble_eq_true rfl) ⟨Nat.le_of_ble_eq_true rfl, Nat.le_of_ble_eq_true rfl⟩ dA_wins_29 hout hlk (fun E h9 => ?_) (fun v hv => ?_)
    · obtain ⟨hc4, rfl⟩ := ri_then h9
      (try simp only [if_neg hc1, if_pos hc2, if_neg hc3, if_pos hc4]) <;> rfl
    obtain ⟨hc4, rfl⟩ := ri_else hv
    refine lv_aload_n hx hb dA_wins_32 rfl (lv_at hl 0 rfl) ?_
    refine va_get (D := g.1) (ci := 0) (v := .ref (xo_t g)) (C := "HandTables") (T := T_A) (N := 3) hx hb hts (fun w hw => wd_in (u_inA w hw)) hown hK hP 0 rfl rfl 0 (by decide) (hts _ (wd_in (gw_mem 49 rfl rfl))) (fun _ h => h) rfl dA_wins_33 ?_
    refine lv_iload_n hx hb dA_wins_36 rfl (lv_at hl 1 rfl) ?_
    refine lv_iload_n hx hb dA_wins_37 rfl (lv_at hl 2 rfl) ?_
    refine lv_iconst (v := 1) hx hb dA_wins_38 (by decide) ?_
    refine lv_icmp_ne (tgt := 46) hx hb dA_wins_39 (by decide) (fun hc5 => ?_) (fun hc5 => ?_)
    · refine lv_iconst (v := 0) hx hb dA_wins_46 (by decide) ?_
      refine lv_aload_n hx hb dA_wins_47 rfl (lv_at hl 0 rfl) ?_
      refine va_get (D := g.1) (ci := 0) (v := .ref (xo_t g)) (C := "HandTables") (T := T_A) (N := 3) hx hb hts (fun w hw => wd_in (u_inA w hw)) hown hK hP 0 rfl rfl 0 (by decide) (hts _ (wd_in (gw_mem 49 rfl rfl))) (fun _ h => h) rfl dA_wins_48 ?_
      refine lv_bipush (v := 6) hx hb dA_wins_51 (by decide) ?_
      refine va_lald hx hb hK hP 1 0 rfl rfl (by unfold vp_in; decide) dA_wins_53 ?_
      refine lv_aload_n hx hb dA_wins_54 rfl (lv_at hl 0 rfl) ?_
      refine pu_V (cA_free l g T dk dn ) rfl kA_A_free hS bl_xo hB rfl (xo_rc hB) ⟨Nat.le_of_ble_eq_true rfl, Nat.le_of_ble_eq_true rfl⟩ hl.1 rfl (Nat.le_of_ble_eq_true rfl) ⟨Nat.zero_le _, Nat.zero_le _⟩ dA_wins_55 ?_
      refine lv_aload_n hx hb dA_wins_58 rfl (lv_at hl 0 rfl) ?_
      refine pu_V (cA_missing l g T dk dn ) rfl kA_A_missing hS bl_xo hB rfl (xo_rc hB) ⟨Nat.le_of_ble_eq_true rfl, Nat.le_of_ble_eq_true rfl⟩ hl.1 rfl (Nat.le_of_ble_eq_true rfl) ⟨Nat.zero_le _, Nat.zero_le _⟩ dA_wins_59 ?_
      refine lv_topi (fun xm exm => ?_)
      have exm : xm = nI 2 := exm.trans hb5
      subst exm
      refine pu_S (cA_countBoards_2 l g T dk dn _ _ _ _) rfl kA_A_countBoards hS bl_xo hB rfl ⟨Nat.le_of_ble_eq_true rfl, Nat.le_of_ble_eq_true rfl⟩ hl.1 rfl (Nat.le_of_ble_eq_true rfl) ⟨Nat.zero_le _, Nat.zero_le _⟩ dA_wins_62 ?_
      exact px_iret hx hb hr hlk dA_wins_65 (by (try simp only [if_neg hc1, if_pos hc2, if_neg hc3, if_neg hc4]) <;> rfl)
    · exact absurd (hc2.symm.trans hc5) (by decide)
  · refine lv_iload_n hx hb dA_wins_8 rfl (lv_at hl 2 rfl) ?_
    refine lv_iconst (v := 1) hx hb dA_wins_9 (by decide) ?_
    refine lv_icmp_eq (tgt := 23) hx hb dA_wins_10 (by decide) (fun hc6 => ?_) (fun hc6 => ?_)
    · refine lv_aload_n hx hb dA_wins_23 rfl (lv_at hl 0 rfl) ?_
      refine lv_iload_n hx hb dA_wins_24 rfl (lv_at hl 1 rfl) ?_
      refine px_V (cA_requireTaken l g T dk dn _ hst (se_in (by assumption))) rfl kA_A_requireTaken hS bl_xo hB (xo_rc hB) ⟨Nat.le_of_ble_eq_true rfl, Nat.le_of_ble_eq_true rfl⟩ hl.1 rfl (Nat.le_of_ble_eq_true rfl) ⟨Nat.le_of_ble_eq_true rfl, Nat.le_of_ble_eq_true rfl⟩ dA_wins_25 hout hlk (fun E h9 => ?_) (fun v hv => ?_)
      · obtain ⟨hc7, rfl⟩ := ri_then h9
        (try simp only [if_neg hc1, if_neg hc2, if_pos hc6, if_pos hc7]) <;> rfl
      obtain ⟨hc7, rfl⟩ := ri_else hv
      refine lv_aload_n hx hb dA_wins_28 rfl (lv_at hl 0 rfl) ?_
      refine px_V (cA_requireThreeOnBoard l g T dk dn  hst) rfl kA_A_requireThreeOnBoard hS bl_xo hB (xo_rc hB) ⟨Nat.le_of_ble_eq_true rfl, Nat.le_of_ble_eq_true rfl⟩ hl.1 rfl (Nat.le_of_ble_eq_true rfl) ⟨Nat.le_of_ble_eq_true rfl, Nat.le_of_ble_eq_true rfl⟩ dA_wins_29 hout hlk (fun E h9 => ?_) (fun v hv => ?_)
      · obtain ⟨hc8, rfl⟩ := ri_then h9
        (try simp only [if_neg hc1, if_neg hc2, if_pos hc6, if_neg hc7, if_pos hc8]) <;> rfl
      obtain ⟨hc8, rfl⟩ := ri_else hv
      refine lv_aload_n hx hb dA_wins_32 rfl (lv_at hl 0 rfl) ?_
      refine va_get (D := g.1) (ci := 0) (v := .ref (xo_t g)) (C := "HandTables") (T := T_A) (N := 3) hx hb hts (fun w hw => wd_in (u_inA w hw)) hown hK hP 0 rfl rfl 0 (by decide) (hts _ (wd_in (gw_mem 49 rfl rfl))) (fun _ h => h) rfl dA_wins_33 ?_
      refine lv_iload_n hx hb dA_wins_36 rfl (lv_at hl 1 rfl) ?_
      refine lv_iload_n hx hb dA_wins_37 rfl (lv_at hl 2 rfl) ?_
      refine lv_iconst (v := 1) hx hb dA_wins_38 (by decide) ?_
      refine lv_icmp_ne (tgt := 46) hx hb dA_wins_39 (by decide) (fun hc9 => ?_) (fun hc9 => ?_)
      · exact absurd hc6 hc9
      · refine lv_iconst (v := 1) hx hb dA_wins_42 (by decide) ?_
        refine lv_goto (tgt := 47) hx hb dA_wins_43 (by decide) ?_
        refine lv_aload_n hx hb dA_wins_47 rfl (lv_at hl 0 rfl) ?_
        refine va_get (D := g.1) (ci := 0) (v := .ref (xo_t g)) (C := "HandTables") (T := T_A) (N := 3) hx hb hts (fun w hw => wd_in (u_inA w hw)) hown hK hP 0 rfl rfl 0 (by decide) (hts _ (wd_in (gw_mem 49 rfl rfl))) (fun _ h => h) rfl dA_wins_48 ?_
        refine lv_bipush (v := 6) hx hb dA_wins_51 (by decide) ?_
        refine va_lald hx hb hK hP 1 0 rfl rfl (by unfold vp_in; decide) dA_wins_53 ?_
        refine lv_aload_n hx hb dA_wins_54 rfl (lv_at hl 0 rfl) ?_
        refine pu_V (cA_free l g T dk dn ) rfl kA_A_free hS bl_xo hB rfl (xo_rc hB) ⟨Nat.le_of_ble_eq_true rfl, Nat.le_of_ble_eq_true rfl⟩ hl.1 rfl (Nat.le_of_ble_eq_true rfl) ⟨Nat.zero_le _, Nat.zero_le _⟩ dA_wins_55 ?_
        refine lv_aload_n hx hb dA_wins_58 rfl (lv_at hl 0 rfl) ?_
        refine pu_V (cA_missing l g T dk dn ) rfl kA_A_missing hS bl_xo hB rfl (xo_rc hB) ⟨Nat.le_of_ble_eq_true rfl, Nat.le_of_ble_eq_true rfl⟩ hl.1 rfl (Nat.le_of_ble_eq_true rfl) ⟨Nat.zero_le _, Nat.zero_le _⟩ dA_wins_59 ?_
        refine lv_topi (fun xm exm => ?_)
        have exm : xm = nI 2 := exm.trans hb5
        subst exm
        refine pu_S (cA_countBoards_2 l g T dk dn _ _ _ _) rfl kA_A_countBoards hS bl_xo hB rfl ⟨Nat.le_of_ble_eq_true rfl, Nat.le_of_ble_eq_true rfl⟩ hl.1 rfl (Nat.le_of_ble_eq_true rfl) ⟨Nat.zero_le _, Nat.zero_le _⟩ dA_wins_62 ?_
        exact px_iret hx hb hr hlk dA_wins_65 (by (try simp only [if_neg hc1, if_neg hc2, if_pos hc6, if_neg hc7, if_neg hc8]) <;> rfl)
    · exact px_throw (cls := ex_IA) (text := "neither wins nor shares") hx hb hst hown hts hEx (by decide +kernel) (gw_mem 97 rfl rfl) (gw_mem 33 rfl rfl) (by decide) at_IA an_IA ag_IA (by rw [hml]; exact hl.1) dA_wins_13 dA_wins_16 dA_wins_17 dA_wins_19 dA_wins_22 hout (Nat.le_of_ble_eq_true rfl) (Nat.le_of_ble_eq_true rfl) (Nat.le_of_ble_eq_true rfl) (Nat.le_of_ble_eq_true rfl) hlk (by (try simp only [if_neg hc1, if_neg hc2, if_neg hc6]) <;> rfl)
end
section
/-! Methods that change the object's cells, or throw -/
abbrev mu_R : Type := String ⊕ (Option Value × (Nat → Int64) × (Nat → Int32) × Int32)
def mu_fr (g : xo_E) (q : Nat) : Prop := q = xo_a g ∨ q = xo_t g ∨ q = xo_d g
def xo_ap (g : xo_E) : Prop := xo_a g ≠ xo_t g ∧ xo_a g ≠ xo_d g ∧ xo_t g ≠ xo_d g
def mu_Q (g : xo_E) (res : mu_R) : Array Value → State → Outcome → State → Prop := fun _ st o t =>
  ∃ v T dk dn, res = .inr (v, T, dk, dn) ∧ o = .returned v ∧ st.heap.size ≤ t.heap.size ∧ va_P g.1 cl_X (xo_W g T dk dn) t.heap ∧ ∀ q : Nat, q < st.heap.size → ¬ mu_fr g q → t.heap[q]? = st.heap[q]?
def mu_X (res : mu_R) : String → State → State → Prop := fun E st t => res = .inl E ∧ st.heap.size ≤ t.heap.size ∧ ∀ q : Nat, q < st.heap.size → t.heap[q]? = st.heap[q]?
def mu_M (l : Launch) (y : MethodName) (b : ByteArray) (n : Nat) (ret : Option FieldType) (d : Nat) (av : List Value) (g : xo_E) (B : State → Prop) (res : mu_R) : Prop :=
  vx_Met l y (wd y b n ret) (rmD d 1 6) (va_Pc av B) (mu_Q g res) (mu_X res) 1 6 (mu_fr g)
theorem xo_D {g : xo_E} (T : Nat → Int64) (dk : Nat → Int32) (dn : Int32) (h : xo_ap g) : va_D (mu_fr g) (xo_W g T dk dn) := by
  obtain ⟨h1, h2, h3⟩ := h
  refine ⟨fun i j x y hi hj hxy => ?_, fun k q hk => ?_⟩
  · match i, j with
    | 0, 0 => rfl
    | 1, 1 => rfl
    | 2, 2 => rfl
    | 0, 1 => cases hi; cases hj; exact absurd hxy h1
    | 0, 2 => cases hi; cases hj; exact absurd hxy h2
    | 1, 0 => cases hi; cases hj; exact absurd hxy.symm h1
    | 1, 2 => cases hi; cases hj; exact absurd hxy h3
    | 2, 0 => cases hi; cases hj; exact absurd hxy.symm h2
    | 2, 1 => cases hi; cases hj; exact absurd hxy.symm h3
    | _, n + 3 => cases hj
    | n + 3, 0 => cases hi
    | n + 3, 1 => cases hi
    | n + 3, 2 => cases hi
  · match k with
    | 0 => cases hk; exact Or.inl rfl
    | 1 => cases hk; exact Or.inr (Or.inl rfl)
    | 2 => cases hk; exact Or.inr (Or.inr rfl)
    | n + 3 => cases hk
section MU
variable {p : Program} {l : Launch} {e : Env} {R : Room} {s : State} {m : MethodId} {args : Array Value} {below : List Frame} {meth : Method} {c : Code} {H : Heap} {locs : List Loc} {cells slots : Nat} {Q : State → Prop}
variable {cc b : ByteArray} {pc nL n d index k : Nat} {ls : Array Slot} {rest st0 : List Value} {own C : String} {y y0 : MethodName} {b0 : ByteArray} {n0 : Nat} {ret ret0 : Option FieldType} {av : List Value} {B : State → Prop} {res : String ⊕ Option Value} {res0 : mu_R} {g : xo_E} {T : Nat → Int64} {dk : Nat → Int32} {dn : Int32}
/-- a static call that may throw, before anything has changed -/
theorem mu_S (hM : px_M l y b n ret d av B res) (he : st0 = av.reverse ++ rest) (hc : cs_W own index y b n ret k) (S : CallFix p m c cc nL s args (wd y0 b0 n0 ret0) own) (hBl : bl_F B) (hB : B s)
    (hR : (d + 1 ≤ R.frames ∧ 8 + (n + 11) + 70 * d ≤ R.locals)) (hl : ls.size = nL) (hk : av.length = k) (hst : (rest.map fun v => v.category).sum ≤ 8) (hf : 0 + 1 ≤ R.cells ∧ 0 + 6 ≤ R.slots) (hdg : decode cc pc = .ok (.invokestatic index, 3)) (hout : ∀ x ∈ c.exceptionTable.toList, False) (hlk : meth.locks = false)
    (hE : ∀ E, res = .inl E → res0 = .inl E)
    (kr : ∀ v, res = .inr v → W p l e R s m args below meth c s.heap [] 0 0 (vx_MQ below (mu_Q g res0) (mu_X res0) args s 1 6 (mu_fr g)) (F0 m (pc + 3) ls (v.toList ++ rest))) :
    W p l e R s m args below meth c s.heap [] 0 0 (vx_MQ below (mu_Q g res0) (mu_X res0) args s 1 6 (mu_fr g)) (F0 m pc ls st0) := by
  subst he
  exact px_call (vx_runS (As := av) (rest := rest) S hM (va_cwS k S.2.2.2.2 (cs_good hc) rfl rfl rfl hc.2.2.2.2 hR) ⟨bl_blind hBl, fun U hU hW => ⟨rfl, hBl s U hW hU hB⟩⟩ rfl hk hl rfl (by show 2 * 0 + _ ≤ 8; omega) hdg hf) kr
    (fun E q ce H1 h0 h1 h2 h3 h4 h5 => vx_out (fun x hx => (hout x hx).elim) hlk h1 h2 h3 (fun t ht _ => ⟨hE E h0, by rw [ht]; exact h4, fun z hz => by rw [ht]; exact h5 z hz⟩) (fun z hz => nomatch hz) (Nat.le_refl _) (Nat.le_refl _))
theorem mu_end {v : Option Value} {t : State} (hv : res0 = .inr (v, T, dk, dn)) (hP : va_P g.1 cl_X (xo_W g T dk dn) H) (hS : va_S (mu_fr g) s.heap H locs) (ht : t.heap = H) {a : Array Value} : mu_Q g res0 a s (.returned v) t :=
  ⟨v, T, dk, dn, hv, rfl, by rw [ht]; exact hS.1, by rw [ht]; exact hP, fun q h1 h2 => by rw [ht]; exact hS.2.1 q h1 h2⟩
theorem mu_iret {v : Int32} (hexec : p.tables.exec = Jvm.exec) (hb : c.code = cc) (hr : meth.sig.returnType = some .int) (hlocks : meth.locks = false) (hdg : decode cc pc = .ok (.ireturn, 1)) (hP : va_P g.1 cl_X (xo_W g T dk dn) H) (hS : va_S (mu_fr g) s.heap H locs) (hv : res0 = .inr (some (.int v), T, dk, dn)) :
    W p l e R s m args below meth c H locs 0 0 (vx_MQ below (mu_Q g res0) (mu_X res0) args s 1 6 (mu_fr g)) (F0 m pc ls [.int v]) :=
  W.widen (k := 1) (n := 6) (by omega) (by omega) (vx_ret (W.iret hexec hb hr (fun t ht _ => mu_end hv hP hS ht) hS.2.2 hdg hlocks))
theorem mu_zret {v : Int32} (hexec : p.tables.exec = Jvm.exec) (hb : c.code = cc) (hr : meth.sig.returnType = some .boolean) (hlocks : meth.locks = false) (hdg : decode cc pc = .ok (.ireturn, 1)) (h01 : v = 0 ∨ v = 1) (hP : va_P g.1 cl_X (xo_W g T dk dn) H) (hS : va_S (mu_fr g) s.heap H locs) (hv : res0 = .inr (some (.int v), T, dk, dn)) :
    W p l e R s m args below meth c H locs 0 0 (vx_MQ below (mu_Q g res0) (mu_X res0) args s 1 6 (mu_fr g)) (F0 m pc ls [.int v]) := by
  refine W.widen (k := 1) (n := 6) (by omega) (by omega) (vx_ret (W.zret hexec hb hr ?_ (fun t ht _ => mu_end hv hP hS ht) hS.2.2 hdg hlocks))
  rcases h01 with h | h <;> subst h <;> rfl
theorem mu_vret (hexec : p.tables.exec = Jvm.exec) (hb : c.code = cc) (hr : meth.sig.returnType = none) (hlocks : meth.locks = false) (hdg : decode cc pc = .ok (.return_, 1)) (hP : va_P g.1 cl_X (xo_W g T dk dn) H) (hS : va_S (mu_fr g) s.heap H locs) (hv : res0 = .inr (none, T, dk, dn)) :
    W p l e R s m args below meth c H locs 0 0 (vx_MQ below (mu_Q g res0) (mu_X res0) args s 1 6 (mu_fr g)) (F0 m pc ls []) :=
  W.widen (k := 1) (n := 6) (by omega) (by omega) (vx_ret (W.vret hexec hb hr (fun t ht _ => mu_end hv hP hS ht) hS.2.2 hdg hlocks))
end MU
end
section
/-! seats, the board, a card drawn -/
def tf_A : Nat → FieldType := fun k => match k with
  | 0 => .array .long
  | 1 => .array .int
  | _ => .int
theorem tf_A_ok : ∀ k, k < 3 → parseFieldDescriptor (T_A k).2.2.1 = some (tf_A k) := by decide +kernel
theorem n_A : ∀ a, a < 3 → ∀ b, b < 3 → a ≠ b → (T_A a).2.1 ≠ (T_A b).2.1 := by decide +kernel
theorem dr_in {k : Int32} (h1 : ¬ k < 0) (h2 : k < 52) : vp_in k 52 := by
  rw [vp_in_iff]
  have a1 := Int32.lt_iff_toInt_lt.mp h2
  have a2 : 0 ≤ k.toInt := Int.not_lt.mp fun z => h1 (Int32.lt_iff_toInt_lt.mpr z)
  exact ⟨a2, a1⟩
set_option maxHeartbeats 4000000 in
set_option maxRecDepth 100000 in
theorem cA_leave (l : Launch) (g : xo_E) (T : Nat → Int64) (dk : Nat → Int32) (dn : Int32) (k : Int32) (hst : l.stackTraces = false) (hap : xo_ap g)  : mu_M l yA_leave bA_leave 3 (some .boolean) 7 [.ref (xo_a g), .int k] g (xo_F g T dk dn) (if q_seat k then .inl ex_IO else if T k.toNatClampNeg = 0 then .inr (some (.int 0), vp_updL T k.toNatClampNeg 0, dk, dn) else .inr (some (.int 1), vp_updL T k.toNatClampNeg 0, dk, dn)) := by
  refine vx_ofW (cc := bA_leave) (maxL := 3) (ret := (some .boolean)) (by decide) rfl ?_
  intro p e s m args below meth c s₁ BB hml hout hv
  obtain ⟨rfl, hB⟩ := hv
  have hx := BB.exec
  have hb := BB.bytes
  have hr := BB.returns
  have hlk := BB.notSynchronized
  have hts := atoms_spec (ws := wd yA_leave bA_leave 3 (some .boolean)) BB.pre
  have hown : s.vm.findClass "HandTables" = some m.cls := findClass_of_methodNamed BB.named
  have hS : CallFix p m c bA_leave 3 s _ (wd yA_leave bA_leave 3 (some .boolean)) "HandTables" := ⟨hx, hb, hml, hown, hts⟩
  obtain ⟨hTa, hEx, hP, hK⟩ := id hB
  have hD := xo_D T dk dn hap
  have hSS : va_S (mu_fr g) s.heap s.heap [] := va_S.rf
  obtain ⟨⟨t1, hT1⟩, ⟨t2, hT2⟩, ⟨t3, hT3⟩, ⟨t4, hT4⟩⟩ := id hTa
  have hl := lv_entry ([.ref (xo_a g), .int k]) (n := 3) (Nat.le_of_ble_eq_true rfl)
  rw [lg_entry_eq]
  generalize (lg_sl ([.ref (xo_a g), .int k]) ++ List.replicate (3 - (lg_sl ([.ref (xo_a g), .int k])).length) Slot.unset).toArray = ls at hl ⊢
  have hl : lv_has ls 3 [(0, .ref (xo_a g)), (1, .int k)] := hl
  refine lv_iload_n hx hb dA_leave_0 rfl (lv_at hl 1 rfl) ?_
  refine mu_S (cA_requireSeat l _ hst) rfl kA_A_requireSeat hS bl_ex hEx ⟨Nat.le_of_ble_eq_true rfl, Nat.le_of_ble_eq_true rfl⟩ hl.1 rfl (Nat.le_of_ble_eq_true rfl) ⟨Nat.le_of_ble_eq_true rfl, Nat.le_of_ble_eq_true rfl⟩ dA_leave_1 hout hlk (fun E h9 => ?_) (fun v hv => ?_)
  · obtain ⟨hc1, rfl⟩ := ri_then h9
    (try simp only [if_pos hc1]) <;> rfl
  obtain ⟨hc1, rfl⟩ := ri_else hv
  refine lv_aload_n hx hb dA_leave_4 rfl (lv_at hl 0 rfl) ?_
  refine va_get (D := g.1) (ci := 0) (v := .ref (xo_t g)) (C := "HandTables") (T := T_A) (N := 3) hx hb hts (fun w hw => wd_in (u_inA w hw)) hown hK hP 0 rfl rfl 0 (by decide) (hts _ (wd_in (gw_mem 49 rfl rfl))) (fun _ h => h) rfl dA_leave_5 ?_
  refine lv_iload_n hx hb dA_leave_8 rfl (lv_at hl 1 rfl) ?_
  refine va_lald hx hb hK hP 1 0 rfl rfl (se_in hc1) dA_leave_9 ?_
  refine lv_lconst (v := 0) hx hb dA_leave_10 (by decide) ?_
  refine jv_lceq (tgt := 19) hx hb dA_leave_11 dA_leave_12 (by decide) (fun hc2 => ?_) (fun hc2 => ?_)
  · refine lv_iconst (v := 0) hx hb dA_leave_19 (by decide) ?_
    refine jt_topi (fun x3 ex3 => ?_)
    refine lv_istore_n (lv' := [(2, .int x3), (0, .ref (xo_a g)), (1, .int k)]) hx hb dA_leave_20 rfl hl (by decide) rfl (fun ls hl => ?_)
    refine lv_aload_n hx hb dA_leave_21 rfl (lv_at hl 1 rfl) ?_
    refine va_get (D := g.1) (ci := 0) (v := .ref (xo_t g)) (C := "HandTables") (T := T_A) (N := 3) hx hb hts (fun w hw => wd_in (u_inA w hw)) hown hK hP 0 rfl rfl 0 (by decide) (hts _ (wd_in (gw_mem 49 rfl rfl))) (fun _ h => h) rfl dA_leave_22 ?_
    refine lv_iload_n hx hb dA_leave_25 rfl (lv_at hl 2 rfl) ?_
    refine lv_lconst (v := 0) hx hb dA_leave_26 (by decide) ?_
    refine va_last (x := 0) hx hb hK hP hD hSS 1 0 rfl rfl (se_in hc1) dA_leave_27 (fun H locs hP hD hSS => ?_)
    have hP : va_P g.1 cl_X (xo_W g (vp_updL T (k : Int32).toNatClampNeg 0) dk dn) H := hP
    have hD : va_D (mu_fr g) (xo_W g (vp_updL T (k : Int32).toNatClampNeg 0) dk dn) := hD
    refine lv_iload_n hx hb dA_leave_28 rfl (lv_at hl 0 rfl) ?_
    exact mu_zret hx hb hr hlk dA_leave_29 (by subst_vars; decide) hP hSS (by subst ex3; (try simp only [if_neg hc1, if_pos hc2]) <;> rfl)
  · refine lv_iconst (v := 1) hx hb dA_leave_15 (by decide) ?_
    refine lv_goto (tgt := 20) hx hb dA_leave_16 (by decide) ?_
    refine jt_topi (fun x4 ex4 => ?_)
    refine lv_istore_n (lv' := [(2, .int x4), (0, .ref (xo_a g)), (1, .int k)]) hx hb dA_leave_20 rfl hl (by decide) rfl (fun ls hl => ?_)
    refine lv_aload_n hx hb dA_leave_21 rfl (lv_at hl 1 rfl) ?_
    refine va_get (D := g.1) (ci := 0) (v := .ref (xo_t g)) (C := "HandTables") (T := T_A) (N := 3) hx hb hts (fun w hw => wd_in (u_inA w hw)) hown hK hP 0 rfl rfl 0 (by decide) (hts _ (wd_in (gw_mem 49 rfl rfl))) (fun _ h => h) rfl dA_leave_22 ?_
    refine lv_iload_n hx hb dA_leave_25 rfl (lv_at hl 2 rfl) ?_
    refine lv_lconst (v := 0) hx hb dA_leave_26 (by decide) ?_
    refine va_last (x := 0) hx hb hK hP hD hSS 1 0 rfl rfl (se_in hc1) dA_leave_27 (fun H locs hP hD hSS => ?_)
    have hP : va_P g.1 cl_X (xo_W g (vp_updL T (k : Int32).toNatClampNeg 0) dk dn) H := hP
    have hD : va_D (mu_fr g) (xo_W g (vp_updL T (k : Int32).toNatClampNeg 0) dk dn) := hD
    refine lv_iload_n hx hb dA_leave_28 rfl (lv_at hl 0 rfl) ?_
    exact mu_zret hx hb hr hlk dA_leave_29 (by subst_vars; decide) hP hSS (by subst ex4; (try simp only [if_neg hc1, if_neg hc2]) <;> rfl)
set_option maxHeartbeats 4000000 in
set_option maxRecDepth 100000 in
theorem cA_clear (l : Launch) (g : xo_E) (T : Nat → Int64) (dk : Nat → Int32) (dn : Int32)  (hst : l.stackTraces = false) (hap : xo_ap g)  : mu_M l yA_clear bA_clear 2 (some .int) 7 [.ref (xo_a g)] g (xo_F g T dk dn) (.inr (some (.int (g_bs T)), vp_updL T (6 : Int32).toNatClampNeg 0, dk, dn)) := by
  refine vx_ofW (cc := bA_clear) (maxL := 2) (ret := (some .int)) (by decide) rfl ?_
  intro p e s m args below meth c s₁ BB hml hout hv
  obtain ⟨rfl, hB⟩ := hv
  have hx := BB.exec
  have hb := BB.bytes
  have hr := BB.returns
  have hlk := BB.notSynchronized
  have hts := atoms_spec (ws := wd yA_clear bA_clear 2 (some .int)) BB.pre
  have hown : s.vm.findClass "HandTables" = some m.cls := findClass_of_methodNamed BB.named
  have hS : CallFix p m c bA_clear 2 s _ (wd yA_clear bA_clear 2 (some .int)) "HandTables" := ⟨hx, hb, hml, hown, hts⟩
  obtain ⟨hTa, hEx, hP, hK⟩ := id hB
  have hD := xo_D T dk dn hap
  have hSS : va_S (mu_fr g) s.heap s.heap [] := va_S.rf
  obtain ⟨⟨t1, hT1⟩, ⟨t2, hT2⟩, ⟨t3, hT3⟩, ⟨t4, hT4⟩⟩ := id hTa
  have hl := lv_entry ([.ref (xo_a g)]) (n := 2) (Nat.le_of_ble_eq_true rfl)
  rw [lg_entry_eq]
  generalize (lg_sl ([.ref (xo_a g)]) ++ List.replicate (2 - (lg_sl ([.ref (xo_a g)])).length) Slot.unset).toArray = ls at hl ⊢
  have hl : lv_has ls 2 [(0, .ref (xo_a g))] := hl
  refine lv_aload_n hx hb dA_clear_0 rfl (lv_at hl 0 rfl) ?_
  refine pu_V (cA_boardSize l g T dk dn ) rfl kA_A_boardSize hS bl_xo hB rfl (xo_rc hB) ⟨Nat.le_of_ble_eq_true rfl, Nat.le_of_ble_eq_true rfl⟩ hl.1 rfl (Nat.le_of_ble_eq_true rfl) ⟨Nat.zero_le _, Nat.zero_le _⟩ dA_clear_1 ?_
  refine jt_topi (fun x1 ex1 => ?_)
  refine lv_istore_n (lv' := [(1, .int x1), (0, .ref (xo_a g))]) hx hb dA_clear_4 rfl hl (by decide) rfl (fun ls hl => ?_)
  refine lv_aload_n hx hb dA_clear_5 rfl (lv_at hl 1 rfl) ?_
  refine va_get (D := g.1) (ci := 0) (v := .ref (xo_t g)) (C := "HandTables") (T := T_A) (N := 3) hx hb hts (fun w hw => wd_in (u_inA w hw)) hown hK hP 0 rfl rfl 0 (by decide) (hts _ (wd_in (gw_mem 49 rfl rfl))) (fun _ h => h) rfl dA_clear_6 ?_
  refine lv_bipush (v := 6) hx hb dA_clear_9 (by decide) ?_
  refine lv_lconst (v := 0) hx hb dA_clear_11 (by decide) ?_
  refine va_last (x := 0) hx hb hK hP hD hSS 1 0 rfl rfl (by unfold vp_in; decide) dA_clear_12 (fun H locs hP hD hSS => ?_)
  have hP : va_P g.1 cl_X (xo_W g (vp_updL T (6 : Int32).toNatClampNeg 0) dk dn) H := hP
  have hD : va_D (mu_fr g) (xo_W g (vp_updL T (6 : Int32).toNatClampNeg 0) dk dn) := hD
  refine lv_iload_n hx hb dA_clear_13 rfl (lv_at hl 0 rfl) ?_
  exact mu_iret hx hb hr hlk dA_clear_14 hP hSS (by subst ex1; (try simp only []) <;> rfl)
set_option maxHeartbeats 4000000 in
set_option maxRecDepth 100000 in
theorem cA_seat (l : Launch) (g : xo_E) (T : Nat → Int64) (dk : Nat → Int32) (dn : Int32) (k : Int32) (a : Int32) (b : Int32) (hst : l.stackTraces = false) (hap : xo_ap g)  : mu_M l yA_seat bA_seat 8 (some .boolean) 7 [.ref (xo_a g), .int k, .int a, .int b] g (xo_F g T dk dn) (if q_seat k then .inl ex_IO else if q_card a then .inl ex_IA else if q_card b then .inl ex_IA else if a = b then .inr (some (.int 0), T, dk, dn) else if (jl 1 a ||| jl 1 b) &&& (g_stand T &&& (T k.toNatClampNeg ^^^ -1)) = 0 then .inr (some (.int 1), vp_updL T k.toNatClampNeg (jl 1 a ||| jl 1 b), dk, dn) else .inr (some (.int 0), T, dk, dn)) := by
  refine vx_ofW (cc := bA_seat) (maxL := 8) (ret := (some .boolean)) (by decide) rfl ?_
  intro p e s m args below meth c s₁ BB hml hout hv
  obtain ⟨rfl, hB⟩ := hv
  have hx := BB.exec
  have hb := BB.bytes
  have hr := BB.returns
  have hlk := BB.notSynchronized
  have hts := atoms_spec (ws := wd yA_seat bA_seat 8 (some .boolean)) BB.pre
  have hown : s.vm.findClass "HandTables" = some m.cls := findClass_of_methodNamed BB.named
  have hS : CallFix p m c bA_seat 8 s _ (wd yA_seat bA_seat 8 (some .boolean)) "HandTables" := ⟨hx, hb, hml, hown, hts⟩
  obtain ⟨hTa, hEx, hP, hK⟩ := id hB
  have hD := xo_D T dk dn hap
  have hSS : va_S (mu_fr g) s.heap s.heap [] := va_S.rf
  obtain ⟨⟨t1, hT1⟩, ⟨t2, hT2⟩, ⟨t3, hT3⟩, ⟨t4, hT4⟩⟩ := id hTa
  have hl := lv_entry ([.ref (xo_a g), .int k, .int a, .int b]) (n := 8) (Nat.le_of_ble_eq_true rfl)
  rw [lg_entry_eq]
  generalize (lg_sl ([.ref (xo_a g), .int k, .int a, .int b]) ++ List.replicate (8 - (lg_sl ([.ref (xo_a g), .int k, .int a, .int b])).length) Slot.unset).toArray = ls at hl ⊢
  have hl : lv_has ls 8 [(0, .ref (xo_a g)), (1, .int k), (2, .int a), (3, .int b)] := hl
  refine lv_iload_n hx hb dA_seat_0 rfl (lv_at hl 1 rfl) ?_
  refine mu_S (cA_requireSeat l _ hst) rfl kA_A_requireSeat hS bl_ex hEx ⟨Nat.le_of_ble_eq_true rfl, Nat.le_of_ble_eq_true rfl⟩ hl.1 rfl (Nat.le_of_ble_eq_true rfl) ⟨Nat.le_of_ble_eq_true rfl, Nat.le_of_ble_eq_true rfl⟩ dA_seat_1 hout hlk (fun E h9 => ?_) (fun v hv => ?_)
  · obtain ⟨hc1, rfl⟩ := ri_then h9
    (try simp only [if_pos hc1]) <;> rfl
  obtain ⟨hc1, rfl⟩ := ri_else hv
  refine lv_iload_n hx hb dA_seat_4 rfl (lv_at hl 2 rfl) ?_
  refine mu_S (cA_requireCard l _ hst) rfl kA_A_requireCard hS bl_ex hEx ⟨Nat.le_of_ble_eq_true rfl, Nat.le_of_ble_eq_true rfl⟩ hl.1 rfl (Nat.le_of_ble_eq_true rfl) ⟨Nat.le_of_ble_eq_true rfl, Nat.le_of_ble_eq_true rfl⟩ dA_seat_5 hout hlk (fun E h9 => ?_) (fun v hv => ?_)
  · obtain ⟨hc2, rfl⟩ := ri_then h9
    (try simp only [if_neg hc1, if_pos hc2]) <;> rfl
  obtain ⟨hc2, rfl⟩ := ri_else hv
  refine lv_iload_n hx hb dA_seat_8 rfl (lv_at hl 3 rfl) ?_
  refine mu_S (cA_requireCard l _ hst) rfl kA_A_requireCard hS bl_ex hEx ⟨Nat.le_of_ble_eq_true rfl, Nat.le_of_ble_eq_true rfl⟩ hl.1 rfl (Nat.le_of_ble_eq_true rfl) ⟨Nat.le_of_ble_eq_true rfl, Nat.le_of_ble_eq_true rfl⟩ dA_seat_9 hout hlk (fun E h9 => ?_) (fun v hv => ?_)
  · obtain ⟨hc3, rfl⟩ := ri_then h9
    (try simp only [if_neg hc1, if_neg hc2, if_pos hc3]) <;> rfl
  obtain ⟨hc3, rfl⟩ := ri_else hv
  refine lv_lconst (v := 1) hx hb dA_seat_12 (by decide) ?_
  refine lv_iload_n hx hb dA_seat_13 rfl (lv_at hl 2 rfl) ?_
  refine jv_lshl hx hb dA_seat_14 ?_
  refine lv_lconst (v := 1) hx hb dA_seat_15 (by decide) ?_
  refine lv_iload_n hx hb dA_seat_16 rfl (lv_at hl 3 rfl) ?_
  refine jv_lshl hx hb dA_seat_17 ?_
  refine lv_lor hx hb dA_seat_18 ?_
  refine jt_topl (fun x4 ex4 => ?_)
  refine lv_lstore (lv' := [(4, .long x4), (0, .ref (xo_a g)), (1, .int k), (2, .int a), (3, .int b)]) hx hb dA_seat_19 hl (by decide) rfl (fun ls hl => ?_)
  refine lv_aload_n hx hb dA_seat_21 rfl (lv_at hl 1 rfl) ?_
  refine pu_V (cA_standing l g T dk dn ) rfl kA_A_standing hS bl_xo hB rfl (xo_rc hB) ⟨Nat.le_of_ble_eq_true rfl, Nat.le_of_ble_eq_true rfl⟩ hl.1 rfl (Nat.le_of_ble_eq_true rfl) ⟨Nat.zero_le _, Nat.zero_le _⟩ dA_seat_22 ?_
  refine lv_aload_n hx hb dA_seat_25 rfl (lv_at hl 1 rfl) ?_
  refine va_get (D := g.1) (ci := 0) (v := .ref (xo_t g)) (C := "HandTables") (T := T_A) (N := 3) hx hb hts (fun w hw => wd_in (u_inA w hw)) hown hK hP 0 rfl rfl 0 (by decide) (hts _ (wd_in (gw_mem 49 rfl rfl))) (fun _ h => h) rfl dA_seat_26 ?_
  refine lv_iload_n hx hb dA_seat_29 rfl (lv_at hl 2 rfl) ?_
  refine va_lald hx hb hK hP 1 0 rfl rfl (se_in hc1) dA_seat_30 ?_
  refine lv_ldc2 (v := (-1)) hx hb hown (hts _ (wd_in (gw_mem 183 rfl rfl))) dA_seat_31 ?_
  refine lv_lxor hx hb dA_seat_34 ?_
  refine lv_land hx hb dA_seat_35 ?_
  refine jt_topl (fun x5 ex5 => ?_)
  refine lv_lstore (lv' := [(6, .long x5), (4, .long x4), (0, .ref (xo_a g)), (1, .int k), (2, .int a), (3, .int b)]) hx hb dA_seat_36 hl (by decide) rfl (fun ls hl => ?_)
  refine lv_iload_n hx hb dA_seat_38 rfl (lv_at hl 4 rfl) ?_
  refine lv_iload_n hx hb dA_seat_39 rfl (lv_at hl 5 rfl) ?_
  refine lv_icmp_eq (tgt := 53) hx hb dA_seat_40 (by decide) (fun hc6 => ?_) (fun hc6 => ?_)
  · refine lv_iconst (v := 0) hx hb dA_seat_53 (by decide) ?_
    exact mu_zret hx hb hr hlk dA_seat_54 (by subst_vars; decide) hP hSS (by subst ex5 ex4; (try simp only [if_neg hc1, if_neg hc2, if_neg hc3, if_pos hc6]) <;> rfl)
  · refine lv_lload hx hb dA_seat_43 (lv_at hl 1 rfl) ?_
    refine lv_lload hx hb dA_seat_45 (lv_at hl 0 rfl) ?_
    refine lv_land hx hb dA_seat_47 ?_
    refine lv_lconst (v := 0) hx hb dA_seat_48 (by decide) ?_
    refine jv_lceq (tgt := 55) hx hb dA_seat_49 dA_seat_50 (by decide) (fun hc7 => ?_) (fun hc7 => ?_)
    · refine lv_aload_n hx hb dA_seat_55 rfl (lv_at hl 2 rfl) ?_
      refine va_get (D := g.1) (ci := 0) (v := .ref (xo_t g)) (C := "HandTables") (T := T_A) (N := 3) hx hb hts (fun w hw => wd_in (u_inA w hw)) hown hK hP 0 rfl rfl 0 (by decide) (hts _ (wd_in (gw_mem 49 rfl rfl))) (fun _ h => h) rfl dA_seat_56 ?_
      refine lv_iload_n hx hb dA_seat_59 rfl (lv_at hl 3 rfl) ?_
      refine lv_lload hx hb dA_seat_60 (lv_at hl 1 rfl) ?_
      refine va_last (x := x4) hx hb hK hP hD hSS 1 0 rfl rfl (se_in hc1) dA_seat_62 (fun H locs hP hD hSS => ?_)
      have hP : va_P g.1 cl_X (xo_W g (vp_updL T (k : Int32).toNatClampNeg x4) dk dn) H := hP
      have hD : va_D (mu_fr g) (xo_W g (vp_updL T (k : Int32).toNatClampNeg x4) dk dn) := hD
      refine lv_iconst (v := 1) hx hb dA_seat_63 (by decide) ?_
      exact mu_zret hx hb hr hlk dA_seat_64 (by subst_vars; decide) hP hSS (by subst ex5 ex4; (try simp only [if_neg hc1, if_neg hc2, if_neg hc3, if_neg hc6, if_pos hc7]) <;> rfl)
    · refine lv_iconst (v := 0) hx hb dA_seat_53 (by decide) ?_
      exact mu_zret hx hb hr hlk dA_seat_54 (by subst_vars; decide) hP hSS (by subst ex5 ex4; (try simp only [if_neg hc1, if_neg hc2, if_neg hc3, if_neg hc6, if_neg hc7]) <;> rfl)
set_option maxHeartbeats 4000000 in
set_option maxRecDepth 100000 in
theorem cA_draw (l : Launch) (g : xo_E) (T : Nat → Int64) (dk : Nat → Int32) (dn : Int32)  (hst : l.stackTraces = false) (hap : xo_ap g) (hd0 : ¬ dn < 0) : mu_M l yA_draw bA_draw 2 (some .int) 7 [.ref (xo_a g)] g (xo_F g T dk dn) (if dn < 52 then .inr (some (.int (dk dn.toNatClampNeg)), T, dk, dn + 1) else .inr (some (.int (-1)), T, dk, dn)) := by
  refine vx_ofW (cc := bA_draw) (maxL := 2) (ret := (some .int)) (by decide) rfl ?_
  intro p e s m args below meth c s₁ BB hml hout hv
  obtain ⟨rfl, hB⟩ := hv
  have hx := BB.exec
  have hb := BB.bytes
  have hr := BB.returns
  have hlk := BB.notSynchronized
  have hts := atoms_spec (ws := wd yA_draw bA_draw 2 (some .int)) BB.pre
  have hown : s.vm.findClass "HandTables" = some m.cls := findClass_of_methodNamed BB.named
  have hS : CallFix p m c bA_draw 2 s _ (wd yA_draw bA_draw 2 (some .int)) "HandTables" := ⟨hx, hb, hml, hown, hts⟩
  obtain ⟨hTa, hEx, hP, hK⟩ := id hB
  have hD := xo_D T dk dn hap
  have hSS : va_S (mu_fr g) s.heap s.heap [] := va_S.rf
  obtain ⟨⟨t1, hT1⟩, ⟨t2, hT2⟩, ⟨t3, hT3⟩, ⟨t4, hT4⟩⟩ := id hTa
  have hl := lv_entry ([.ref (xo_a g)]) (n := 2) (Nat.le_of_ble_eq_true rfl)
  rw [lg_entry_eq]
  generalize (lg_sl ([.ref (xo_a g)]) ++ List.replicate (2 - (lg_sl ([.ref (xo_a g)])).length) Slot.unset).toArray = ls at hl ⊢
  have hl : lv_has ls 2 [(0, .ref (xo_a g))] := hl
  refine lv_aload_n hx hb dA_draw_0 rfl (lv_at hl 0 rfl) ?_
  refine va_get (D := g.1) (ci := 0) (v := .int dn) (C := "HandTables") (T := T_A) (N := 3) hx hb hts (fun w hw => wd_in (u_inA w hw)) hown hK hP 0 rfl rfl 2 (by decide) (hts _ (wd_in (gw_mem 51 rfl rfl))) (fun _ h => h) rfl dA_draw_1 ?_
  refine lv_bipush (v := 52) hx hb dA_draw_4 (by decide) ?_
  refine lv_icmp_lt (tgt := 11) hx hb dA_draw_6 (by decide) (fun hc1 => ?_) (fun hc1 => ?_)
  · refine lv_aload_n hx hb dA_draw_11 rfl (lv_at hl 0 rfl) ?_
    refine va_get (D := g.1) (ci := 0) (v := .ref (xo_d g)) (C := "HandTables") (T := T_A) (N := 3) hx hb hts (fun w hw => wd_in (u_inA w hw)) hown hK hP 0 rfl rfl 1 (by decide) (hts _ (wd_in (gw_mem 50 rfl rfl))) (fun _ h => h) rfl dA_draw_12 ?_
    refine lv_aload_n hx hb dA_draw_15 rfl (lv_at hl 0 rfl) ?_
    refine va_get (D := g.1) (ci := 0) (v := .int dn) (C := "HandTables") (T := T_A) (N := 3) hx hb hts (fun w hw => wd_in (u_inA w hw)) hown hK hP 0 rfl rfl 2 (by decide) (hts _ (wd_in (gw_mem 51 rfl rfl))) (fun _ h => h) rfl dA_draw_16 ?_
    refine va_iald hx hb hK hP 2 1 rfl rfl (dr_in hd0 hc1) dA_draw_19 ?_
    refine jt_topi (fun x2 ex2 => ?_)
    refine lv_istore_n (lv' := [(1, .int x2), (0, .ref (xo_a g))]) hx hb dA_draw_20 rfl hl (by decide) rfl (fun ls hl => ?_)
    refine lv_aload_n hx hb dA_draw_21 rfl (lv_at hl 1 rfl) ?_
    refine lv_dup hx hb dA_draw_22 rfl ?_
    refine va_get (D := g.1) (ci := 0) (v := .int dn) (C := "HandTables") (T := T_A) (N := 3) hx hb hts (fun w hw => wd_in (u_inA w hw)) hown hK hP 0 rfl rfl 2 (by decide) (hts _ (wd_in (gw_mem 51 rfl rfl))) (fun _ h => h) rfl dA_draw_23 ?_
    refine lv_iconst (v := 1) hx hb dA_draw_26 (by decide) ?_
    refine lv_iadd hx hb dA_draw_27 ?_
    refine jt_topi (fun x3 ex3 => ?_)
    refine va_put (D := g.1) (ci := 0) (v := .int x3) (ty := .int) (C := "HandTables") (T := T_A) (N := 3) hx hb hts (fun w hw => wd_in (u_inA w hw)) tf_A tf_A_ok n_A hown hK hP hD hSS 0 rfl rfl 2 (by decide) (hts _ (wd_in (gw_mem 51 rfl rfl))) (fun _ h => h) rfl (by decide +kernel) rfl rfl (Nat.le_of_ble_eq_true rfl) dA_draw_28 (fun H locs hP hD hSS => ?_)
    have hP : va_P g.1 cl_X (xo_W g T dk x3) H := hP
    have hD : va_D (mu_fr g) (xo_W g T dk x3) := hD
    refine lv_iload_n hx hb dA_draw_31 rfl (lv_at hl 0 rfl) ?_
    exact mu_iret hx hb hr hlk dA_draw_32 hP hSS (by subst ex3 ex2; (try simp only [if_pos hc1]) <;> rfl)
  · refine lv_iconst (v := (-1)) hx hb dA_draw_9 (by decide) ?_
    exact mu_iret hx hb hr hlk dA_draw_10 hP hSS (by (try simp only [if_neg hc1]) <;> rfl)
end
section
/-! the deck -/
def xw_F (g : xo_E) (T : Nat → Int64) (K : Nat → Int32) (n : Int32) (U : State) : Prop := va_P g.1 cl_X (xo_W g T K n) U.heap ∧ va_K g.1 cl_X [(g.2.1, .long), (g.2.2.1, .int)] U
theorem bl_xw {g : xo_E} {T : Nat → Int64} {K : Nat → Int32} {n : Int32} : bl_F (xw_F g T K n) := by
  intro u U hW hh h
  exact ⟨by rw [hh]; exact h.1, va_K.moved hW.alike h.2⟩
def mw_M (l : Launch) (y : MethodName) (b : ByteArray) (n : Nat) (ret : Option FieldType) (d : Nat) (av : List Value) (g : xo_E) (B : State → Prop) (res : mu_R) : Prop :=
  Met l y (wd y b n ret) (rmD d 0 0) (va_Pc av B) (mu_Q g res) 0 0 (mu_fr g)
section MW
variable {p : Program} {l : Launch} {e : Env} {R : Room} {s : State} {m : MethodId} {args : Array Value} {below : List Frame} {meth : Method} {c : Code} {H : Heap} {locs : List Loc} {cells slots : Nat} {Q : State → Prop}
variable {cc b : ByteArray} {pc nL n d index k o : Nat} {ls : Array Slot} {rest st0 : List Value} {own C : String} {y y0 : MethodName} {b0 : ByteArray} {n0 : Nat} {ret ret0 : Option FieldType} {av : List Value} {B : State → Prop} {res0 : mu_R} {g : xo_E} {T : Nat → Int64} {dk : Nat → Int32} {dn : Int32}
theorem mw_vret (hexec : p.tables.exec = Jvm.exec) (hb : c.code = cc) (hr : meth.sig.returnType = none) (hlocks : meth.locks = false) (hdg : decode cc pc = .ok (.return_, 1)) (hP : va_P g.1 cl_X (xo_W g T dk dn) H) (hS : va_S (mu_fr g) s.heap H locs) (hv : res0 = .inr (none, T, dk, dn)) :
    W p l e R s m args below meth c H locs 0 0 (MQ below (mu_Q g res0) args s 0 0 (mu_fr g)) (F0 m pc ls []) :=
  W.vret hexec hb hr (fun t ht _ => mu_end hv hP hS ht) hS.2.2 hdg hlocks
/-- the call of a method that changes the object's cells and answers nothing -/
theorem mw_V (hM : mw_M l y b n ret d (.ref o :: av) g B (.inr (none, T, dk, dn))) (he : st0 = av.reverse ++ .ref o :: rest) (hc : cv_W own index C y b n ret k) (S : CallFix p m c cc nL s args (wd y0 b0 n0 ret0) own) (hB : ∀ U : State, U.heap = H → s.WarmedH U.vm → B U) (hBl : bl_F B) (hrc : ∃ cell : Cell, H[o]? = some cell ∧ cell.vm.isStatics = false ∧ s.vm.findClass C = some cell.cls)
    (hR : (d + 1 ≤ R.frames ∧ 8 + (n + 11) + 70 * d ≤ R.locals)) (hl : ls.size = nL) (hk : av.length = k) (hst : (rest.map fun v => v.category).sum ≤ 8) (hf : cells ≤ R.cells ∧ slots ≤ R.slots) (hdg : decode cc pc = .ok (.invokevirtual index, 3)) (hS : va_S (mu_fr g) s.heap H locs)
    (kk : ∀ (H1 : Heap) (locs1 : List Loc), va_P g.1 cl_X (xo_W g T dk dn) H1 → va_S (mu_fr g) s.heap H1 locs1 → W p l e R s m args below meth c H1 locs1 cells slots Q (F0 m (pc + 3) ls rest)) : W p l e R s m args below meth c H locs cells slots Q (F0 m pc ls st0) := by
  subst he
  have hr := va_runV (C := C) (b := o) (As := av) (rest := rest) (e := e) (below := below) (meth := meth) (H := H) (locs := locs) (cells := cells) (slots := slots) (g := F0 m pc ls (av.reverse ++ .ref o :: rest)) S hM (cwV k S.2.2.2.2 (cv_good hc) rfl rfl rfl hc.2.2.2.2.2 hR) ⟨bl_blind hBl, hrc, fun U hU hW => ⟨rfl, hB U hU hW⟩⟩ rfl hk hl rfl (by show 2 * 0 + _ ≤ 8; omega) hdg hf
  intro X hX Y
  obtain ⟨v, st₀, t, T', L, h0, X', hL, e1, e2, ⟨v', T1, k1, n1, hres, hv, hz, hp, hk1⟩, st⟩ := hr X hX Y
  cases hv
  cases hres
  rw [h0] at hz hk1
  obtain ⟨t2, a1, b1⟩ := kk T'.heap (locs ++ L) (by rw [e1]; exact hp) ⟨Nat.le_trans hS.1 (by rw [e1]; exact hz), fun q h1 h2 => by rw [e1, hk1 q (Nat.lt_of_lt_of_le h1 hS.1) h2]; exact hS.2.1 q h1 h2, fun q hq => by
      rcases List.mem_append.mp hq with h | h
      · exact hS.2.2 q h
      · exact hL q h⟩ T' rfl X'
  exact ⟨t2, st t2 a1, b1⟩
end MW
def sd_lp : Nat → (Nat → Int32) → Nat → Int32
  | 0, f => f
  | n + 1, f => sd_lp n (upd f (nI (52 - (n + 1))).toNatClampNeg (nI (52 - (n + 1))))
def g_sorted (f : Nat → Int32) : Nat → Int32 := sd_lp 52 f
set_option maxHeartbeats 4000000 in
set_option maxRecDepth 100000 in
theorem cA_sortDeck (l : Launch) (g : xo_E) (T : Nat → Int64) (dk : Nat → Int32) (dn : Int32)  (hap : xo_ap g)  : mw_M l yA_sortDeck bA_sortDeck 2 none 0 [.ref (xo_a g)] g (xw_F g T dk dn) (.inr (none, T, g_sorted dk, 0)) := by
  refine Met.ofW (cc := bA_sortDeck) (maxL := 2) (ret := none) (by decide) rfl ?_
  intro p e s m args below meth c s₁ BB hml hv
  obtain ⟨rfl, hB⟩ := hv
  have hx := BB.exec
  have hb := BB.bytes
  have hr := BB.returns
  have hlk := BB.notSynchronized
  have hts := atoms_spec (ws := wd yA_sortDeck bA_sortDeck 2 none) BB.pre
  have hown : s.vm.findClass "HandTables" = some m.cls := findClass_of_methodNamed BB.named
  have hS : CallFix p m c bA_sortDeck 2 s _ (wd yA_sortDeck bA_sortDeck 2 none) "HandTables" := ⟨hx, hb, hml, hown, hts⟩
  obtain ⟨hP, hK⟩ := id hB
  have hD := xo_D T dk dn hap
  have hSS : va_S (mu_fr g) s.heap s.heap [] := va_S.rf
  have hl := lv_entry ([.ref (xo_a g)]) (n := 2) (Nat.le_of_ble_eq_true rfl)
  rw [lg_entry_eq]
  generalize (lg_sl ([.ref (xo_a g)]) ++ List.replicate (2 - (lg_sl ([.ref (xo_a g)])).length) Slot.unset).toArray = ls at hl ⊢
  have hl : lv_has ls 2 [(0, .ref (xo_a g))] := hl
  refine lv_iconst (v := 0) hx hb dA_sortDeck_0 (by decide) ?_
  refine jt_topi (fun x1 ex1 => ?_)
  refine lv_istore_n (lv' := [(1, .int x1), (0, .ref (xo_a g))]) hx hb dA_sortDeck_1 rfl hl (by decide) rfl (fun ls hl => ?_)
  have hloop : ∀ (n : Nat)  (wT : Nat → Int64) (wk : Nat → Int32) (wn : Int32) (H : Heap) (locs : List Loc) (ls : Array Slot), lv_has ls 2 [(1, .int (nI (52 - n))), (0, .ref (xo_a g))] → va_P g.1 cl_X (xo_W g wT wk wn) H → va_D (mu_fr g) (xo_W g wT wk wn) → va_S (mu_fr g) s.heap H locs → (n ≤ 52) → (∀ (H : Heap) (locs : List Loc) (ls : Array Slot), lv_has ls 2 [(0, .ref (xo_a g))] → va_P g.1 cl_X (xo_W g wT (sd_lp n wk) wn) H → va_D (mu_fr g) (xo_W g wT (sd_lp n wk) wn) → va_S (mu_fr g) s.heap H locs → W p l e (headSpec (wd yA_sortDeck bA_sortDeck 2 none) (rmD 0 0 0)).room s m ([.ref (xo_a g)]).toArray below meth c H locs 0 0 (MQ below (mu_Q g (.inr (none, T, g_sorted dk, 0))) ([.ref (xo_a g)]).toArray s 0 0 (mu_fr g)) (F0 m 21 ls [])) → W p l e (headSpec (wd yA_sortDeck bA_sortDeck 2 none) (rmD 0 0 0)).room s m ([.ref (xo_a g)]).toArray below meth c H locs 0 0 (MQ below (mu_Q g (.inr (none, T, g_sorted dk, 0))) ([.ref (xo_a g)]).toArray s 0 0 (mu_fr g)) (F0 m 2 ls []) := by
    intro n
    induction n with
    | zero =>
      intro  wT wk wn H locs ls hl hP hD hSS hn K
      refine lv_iload_n hx hb dA_sortDeck_2 rfl (lv_at hl 0 rfl) ?_
      refine lv_bipush (v := 52) hx hb dA_sortDeck_3 (by decide) ?_
      refine lv_icmp_ge (tgt := 21) hx hb dA_sortDeck_5 (by decide) (fun hc2 => ?_) (fun hc2 => ?_)
      · simp only [sd_lp] at K
        exact K _ _ _ (lv_sub hl [1] rfl) hP hD hSS
      · exact absurd (by decide) hc2
    | succ n ih =>
      intro  wT wk wn H locs ls hl hP hD hSS hn K
      refine lv_iload_n hx hb dA_sortDeck_2 rfl (lv_at hl 0 rfl) ?_
      refine lv_bipush (v := 52) hx hb dA_sortDeck_3 (by decide) ?_
      refine lv_icmp_ge (tgt := 21) hx hb dA_sortDeck_5 (by decide) (fun hc3 => ?_) (fun hc3 => ?_)
      · exact absurd hc3 (nI_ge (b := 52) (by omega) (by decide))
      · refine lv_aload_n hx hb dA_sortDeck_8 rfl (lv_at hl 1 rfl) ?_
        refine va_get (D := g.1) (ci := 0) (v := .ref (xo_d g)) (C := "HandTables") (T := T_A) (N := 3) hx hb hts (fun w hw => wd_in (u_inA w hw)) hown hK hP 0 rfl rfl 1 (by decide) (hts _ (wd_in (gw_mem 50 rfl rfl))) (fun _ h => h) rfl dA_sortDeck_9 ?_
        refine lv_iload_n hx hb dA_sortDeck_12 rfl (lv_at hl 0 rfl) ?_
        refine lv_iload_n hx hb dA_sortDeck_13 rfl (lv_at hl 0 rfl) ?_
        refine va_iast (x := (nI (52 - (n + 1)))) hx hb hK hP hD hSS 2 1 rfl rfl (vp_in_nI (by omega) (by decide)) dA_sortDeck_14 (fun H locs hP hD hSS => ?_)
        have hP : va_P g.1 cl_X (xo_W g wT (upd wk ((nI (52 - (n + 1))) : Int32).toNatClampNeg (nI (52 - (n + 1)))) wn) H := hP
        have hD : va_D (mu_fr g) (xo_W g wT (upd wk ((nI (52 - (n + 1))) : Int32).toNatClampNeg (nI (52 - (n + 1)))) wn) := hD
        refine jv_iinc (a := 1) hx hb dA_sortDeck_15 hl (k := 0) rfl (by decide) (by decide) (fun x4 ex4 ls hl => ?_)
        have hl : lv_has ls 2 [(1, .int x4), (0, .ref (xo_a g))] := hl
        refine lv_goto (tgt := 2) hx hb dA_sortDeck_18 (by decide) ?_
        rw [nI_up (by omega)] at ex4
        subst ex4
        simp only [sd_lp] at K
        exact ih  _ _ _ _ _ ls (lv_sub hl [0, 1] rfl) hP hD hSS (by omega) K
  refine hloop 52  T dk dn _ _ ls (by have h9 := lv_sub hl [0, 1] rfl; subst ex1; exact h9) hP hD hSS (by decide) (fun H locs ls hl hP hD hSS => ?_)
  clear hloop
  refine lv_aload_n hx hb dA_sortDeck_21 rfl (lv_at hl 0 rfl) ?_
  refine lv_iconst (v := 0) hx hb dA_sortDeck_22 (by decide) ?_
  refine va_put (D := g.1) (ci := 0) (v := .int 0) (ty := .int) (C := "HandTables") (T := T_A) (N := 3) hx hb hts (fun w hw => wd_in (u_inA w hw)) tf_A tf_A_ok n_A hown hK hP hD hSS 0 rfl rfl 2 (by decide) (hts _ (wd_in (gw_mem 51 rfl rfl))) (fun _ h => h) rfl (by decide +kernel) rfl rfl (Nat.le_of_ble_eq_true rfl) dA_sortDeck_23 (fun H locs hP hD hSS => ?_)
  have hP : va_P g.1 cl_X (xo_W g T (sd_lp 52 dk) 0) H := hP
  have hD : va_D (mu_fr g) (xo_W g T (sd_lp 52 dk) 0) := hD
  exact mw_vret hx hb hr hlk dA_sortDeck_26 hP hSS (by subst ex1; (try simp only []) <;> rfl)
def sh_j (x i : Int32) : Int32 := jrem (jri (x &&& 2147483647) 8) (i + 1)
def sh_x (x : Int32) : Int32 := x * 1103515245 + 12345
def sh_lp : Nat → Int32 → (Nat → Int32) → Nat → Int32
  | 0, _, f => f
  | n + 1, x, f => sh_lp n (sh_x x) (upd (upd f (nI (n + 1)).toNatClampNeg (f (sh_j (sh_x x) (nI (n + 1))).toNatClampNeg)) (sh_j (sh_x x) (nI (n + 1))).toNatClampNeg (f (nI (n + 1)).toNatClampNeg))
def g_shuf (x : Int32) (f : Nat → Int32) : Nat → Int32 := sh_lp 51 x (g_sorted f)
theorem sh_le (x : Int32) {k : Nat} (hk : k ≤ 51) : ∃ j, j ≤ k ∧ sh_j x (nI k) = nI j := by
  obtain ⟨a, ha, e⟩ := pk_andE x (m := 2147483647) 31 (by decide)
  have h1 : jri (nI a) 8 = nI (a / 2 ^ 8) := pk_shrN ha _ 8 (by decide)
  refine ⟨(a / 2 ^ 8) % (k + 1), Nat.le_of_lt_succ (Nat.mod_lt (a / 2 ^ 8) (Nat.succ_pos k)), ?_⟩
  unfold sh_j
  rw [e, h1, nI_1]
  exact pk_rem (by omega) (by omega) (by omega)
theorem sh_in (x : Int32) {k : Nat} (hk : k ≤ 51) : vp_in (jrem (jri (x &&& 2147483647) 8) (nI k + 1)) 52 := by
  obtain ⟨j, hj, e⟩ := sh_le x hk
  have e : jrem (jri (x &&& 2147483647) 8) (nI k + 1) = nI j := e
  rw [e]
  exact vp_in_nI (by omega) (by decide)
set_option maxHeartbeats 4000000 in
set_option maxRecDepth 100000 in
theorem cA_shuffle (l : Launch) (g : xo_E) (T : Nat → Int64) (dk : Nat → Int32) (dn : Int32) (q : Int32) (hap : xo_ap g)  : mw_M l yA_shuffle bA_shuffle 6 none 1 [.ref (xo_a g), .int q] g (xw_F g T dk dn) (.inr (none, T, g_shuf q dk, 0)) := by
  refine Met.ofW (cc := bA_shuffle) (maxL := 6) (ret := none) (by decide) rfl ?_
  intro p e s m args below meth c s₁ BB hml hv
  obtain ⟨rfl, hB⟩ := hv
  have hx := BB.exec
  have hb := BB.bytes
  have hr := BB.returns
  have hlk := BB.notSynchronized
  have hts := atoms_spec (ws := wd yA_shuffle bA_shuffle 6 none) BB.pre
  have hown : s.vm.findClass "HandTables" = some m.cls := findClass_of_methodNamed BB.named
  have hS : CallFix p m c bA_shuffle 6 s _ (wd yA_shuffle bA_shuffle 6 none) "HandTables" := ⟨hx, hb, hml, hown, hts⟩
  obtain ⟨hP, hK⟩ := id hB
  have hD := xo_D T dk dn hap
  have hSS : va_S (mu_fr g) s.heap s.heap [] := va_S.rf
  have hl := lv_entry ([.ref (xo_a g), .int q]) (n := 6) (Nat.le_of_ble_eq_true rfl)
  rw [lg_entry_eq]
  generalize (lg_sl ([.ref (xo_a g), .int q]) ++ List.replicate (6 - (lg_sl ([.ref (xo_a g), .int q])).length) Slot.unset).toArray = ls at hl ⊢
  have hl : lv_has ls 6 [(0, .ref (xo_a g)), (1, .int q)] := hl
  refine lv_aload_n hx hb dA_shuffle_0 rfl (lv_at hl 0 rfl) ?_
  refine mw_V (cA_sortDeck l g T dk dn hap) rfl kA_A_sortDeck hS (fun U hU hW => ⟨by rw [hU]; exact hP, va_K.moved hW.alike hK⟩) bl_xw (va_recv (q0 := 0) (ci := 0) (q := ("HandTables", T_A, 3)) hK hP rfl rfl) ⟨Nat.le_of_ble_eq_true rfl, Nat.le_of_ble_eq_true rfl⟩ hl.1 rfl (Nat.le_of_ble_eq_true rfl) ⟨Nat.zero_le _, Nat.zero_le _⟩ dA_shuffle_1 hSS (fun H locs hP hSS => ?_)
  have hD := xo_D T (g_sorted dk) 0 hap
  refine lv_iload_n hx hb dA_shuffle_4 rfl (lv_at hl 1 rfl) ?_
  refine jt_topi (fun x1 ex1 => ?_)
  refine lv_istore_n (lv' := [(2, .int x1), (0, .ref (xo_a g)), (1, .int q)]) hx hb dA_shuffle_5 rfl hl (by decide) rfl (fun ls hl => ?_)
  refine lv_bipush (v := 51) hx hb dA_shuffle_6 (by decide) ?_
  refine jt_topi (fun x2 ex2 => ?_)
  refine lv_istore_n (lv' := [(3, .int x2), (2, .int x1), (0, .ref (xo_a g)), (1, .int q)]) hx hb dA_shuffle_8 rfl hl (by decide) rfl (fun ls hl => ?_)
  have hloop : ∀ (n : Nat) (x : Int32) (wT : Nat → Int64) (wk : Nat → Int32) (wn : Int32) (H : Heap) (locs : List Loc) (ls : Array Slot), lv_has ls 6 [(3, .int (nI n)), (2, .int x), (0, .ref (xo_a g))] → va_P g.1 cl_X (xo_W g wT wk wn) H → va_D (mu_fr g) (xo_W g wT wk wn) → va_S (mu_fr g) s.heap H locs → (n ≤ 51) → (∀ (H : Heap) (locs : List Loc) (ls : Array Slot), lv_has ls 6 [(0, .ref (xo_a g))] → va_P g.1 cl_X (xo_W g wT (sh_lp n x wk) wn) H → va_D (mu_fr g) (xo_W g wT (sh_lp n x wk) wn) → va_S (mu_fr g) s.heap H locs → W p l e (headSpec (wd yA_shuffle bA_shuffle 6 none) (rmD 1 0 0)).room s m ([.ref (xo_a g), .int q]).toArray below meth c H locs 0 0 (MQ below (mu_Q g (.inr (none, T, g_shuf q dk, 0))) ([.ref (xo_a g), .int q]).toArray s 0 0 (mu_fr g)) (F0 m 72 ls [])) → W p l e (headSpec (wd yA_shuffle bA_shuffle 6 none) (rmD 1 0 0)).room s m ([.ref (xo_a g), .int q]).toArray below meth c H locs 0 0 (MQ below (mu_Q g (.inr (none, T, g_shuf q dk, 0))) ([.ref (xo_a g), .int q]).toArray s 0 0 (mu_fr g)) (F0 m 9 ls []) := by
    intro n
    induction n with
    | zero =>
      intro x wT wk wn H locs ls hl hP hD hSS hn K
      refine lv_iload_n hx hb dA_shuffle_9 rfl (lv_at hl 0 rfl) ?_
      refine lv_iconst (v := 1) hx hb dA_shuffle_10 (by decide) ?_
      refine lv_icmp_lt (tgt := 72) hx hb dA_shuffle_11 (by decide) (fun hc3 => ?_) (fun hc3 => ?_)
      · simp only [sh_lp, sh_x, sh_j] at K
        exact K _ _ _ (lv_sub hl [2] rfl) hP hD hSS
      · exact absurd (by decide) hc3
    | succ n ih =>
      intro x wT wk wn H locs ls hl hP hD hSS hn K
      refine lv_iload_n hx hb dA_shuffle_9 rfl (lv_at hl 0 rfl) ?_
      refine lv_iconst (v := 1) hx hb dA_shuffle_10 (by decide) ?_
      refine lv_icmp_lt (tgt := 72) hx hb dA_shuffle_11 (by decide) (fun hc4 => ?_) (fun hc4 => ?_)
      · exact absurd hc4 (by have := nI_nlt (a := n + 1) (b := 1) (by omega) (by omega); exact this)
      · refine lv_iload_n hx hb dA_shuffle_14 rfl (lv_at hl 1 rfl) ?_
        refine lv_ldc (v := 1103515245) hx hb hown (hts _ (wd_in (gw_mem 79 rfl rfl))) dA_shuffle_15 ?_
        refine lv_imul hx hb dA_shuffle_17 ?_
        refine lv_sipush (v := 12345) hx hb dA_shuffle_18 (by decide) ?_
        refine lv_iadd hx hb dA_shuffle_21 ?_
        refine jt_topi (fun x5 ex5 => ?_)
        refine lv_istore_n (lv' := [(2, .int x5), (3, .int (nI (n + 1))), (0, .ref (xo_a g))]) hx hb dA_shuffle_22 rfl hl (by decide) rfl (fun ls hl => ?_)
        refine lv_iload_n hx hb dA_shuffle_23 rfl (lv_at hl 0 rfl) ?_
        refine lv_ldc (v := 2147483647) hx hb hown (hts _ (wd_in (gw_mem 80 rfl rfl))) dA_shuffle_24 ?_
        refine lv_iand hx hb dA_shuffle_26 ?_
        refine lv_bipush (v := 8) hx hb dA_shuffle_27 (by decide) ?_
        refine jv_ishr hx hb dA_shuffle_29 ?_
        refine lv_iload_n hx hb dA_shuffle_30 rfl (lv_at hl 1 rfl) ?_
        refine lv_iconst (v := 1) hx hb dA_shuffle_31 (by decide) ?_
        refine lv_iadd hx hb dA_shuffle_32 ?_
        refine jv_irem hx hb dA_shuffle_33 (by rw [nI_1]; exact nI_ne0 (by omega) (by omega)) ?_
        refine jt_topi (fun x6 ex6 => ?_)
        refine lv_istore (lv' := [(4, .int x6), (2, .int x5), (3, .int (nI (n + 1))), (0, .ref (xo_a g))]) hx hb dA_shuffle_34 hl (by decide) rfl (fun ls hl => ?_)
        refine lv_aload_n hx hb dA_shuffle_36 rfl (lv_at hl 3 rfl) ?_
        refine va_get (D := g.1) (ci := 0) (v := .ref (xo_d g)) (C := "HandTables") (T := T_A) (N := 3) hx hb hts (fun w hw => wd_in (u_inA w hw)) hown hK hP 0 rfl rfl 1 (by decide) (hts _ (wd_in (gw_mem 50 rfl rfl))) (fun _ h => h) rfl dA_shuffle_37 ?_
        refine lv_iload_n hx hb dA_shuffle_40 rfl (lv_at hl 2 rfl) ?_
        refine va_iald hx hb hK hP 2 1 rfl rfl (vp_in_nI (by omega) (by decide)) dA_shuffle_41 ?_
        refine jt_topi (fun x7 ex7 => ?_)
        refine lv_istore (lv' := [(5, .int x7), (4, .int x6), (2, .int x5), (3, .int (nI (n + 1))), (0, .ref (xo_a g))]) hx hb dA_shuffle_42 hl (by decide) rfl (fun ls hl => ?_)
        refine lv_aload_n hx hb dA_shuffle_44 rfl (lv_at hl 4 rfl) ?_
        refine va_get (D := g.1) (ci := 0) (v := .ref (xo_d g)) (C := "HandTables") (T := T_A) (N := 3) hx hb hts (fun w hw => wd_in (u_inA w hw)) hown hK hP 0 rfl rfl 1 (by decide) (hts _ (wd_in (gw_mem 50 rfl rfl))) (fun _ h => h) rfl dA_shuffle_45 ?_
        refine lv_iload_n hx hb dA_shuffle_48 rfl (lv_at hl 3 rfl) ?_
        refine lv_aload_n hx hb dA_shuffle_49 rfl (lv_at hl 4 rfl) ?_
        refine va_get (D := g.1) (ci := 0) (v := .ref (xo_d g)) (C := "HandTables") (T := T_A) (N := 3) hx hb hts (fun w hw => wd_in (u_inA w hw)) hown hK hP 0 rfl rfl 1 (by decide) (hts _ (wd_in (gw_mem 50 rfl rfl))) (fun _ h => h) rfl dA_shuffle_50 ?_
        refine lv_iload hx hb dA_shuffle_53 (lv_at hl 1 rfl) ?_
        refine va_iald hx hb hK hP 2 1 rfl rfl (by subst_vars; exact sh_in _ hn) dA_shuffle_55 ?_
        refine jt_topi (fun x8 ex8 => ?_)
        refine va_iast (x := x8) hx hb hK hP hD hSS 2 1 rfl rfl (vp_in_nI (by omega) (by decide)) dA_shuffle_56 (fun H locs hP hD hSS => ?_)
        have hP : va_P g.1 cl_X (xo_W g wT (upd wk ((nI (n + 1)) : Int32).toNatClampNeg x8) wn) H := hP
        have hD : va_D (mu_fr g) (xo_W g wT (upd wk ((nI (n + 1)) : Int32).toNatClampNeg x8) wn) := hD
        refine lv_aload_n hx hb dA_shuffle_57 rfl (lv_at hl 4 rfl) ?_
        refine va_get (D := g.1) (ci := 0) (v := .ref (xo_d g)) (C := "HandTables") (T := T_A) (N := 3) hx hb hts (fun w hw => wd_in (u_inA w hw)) hown hK hP 0 rfl rfl 1 (by decide) (hts _ (wd_in (gw_mem 50 rfl rfl))) (fun _ h => h) rfl dA_shuffle_58 ?_
        refine lv_iload hx hb dA_shuffle_61 (lv_at hl 1 rfl) ?_
        refine lv_iload hx hb dA_shuffle_63 (lv_at hl 0 rfl) ?_
        refine va_iast (x := x7) hx hb hK hP hD hSS 2 1 rfl rfl (by subst_vars; exact sh_in _ hn) dA_shuffle_65 (fun H locs hP hD hSS => ?_)
        have hP : va_P g.1 cl_X (xo_W g wT (upd (upd wk ((nI (n + 1)) : Int32).toNatClampNeg x8) (x6 : Int32).toNatClampNeg x7) wn) H := hP
        have hD : va_D (mu_fr g) (xo_W g wT (upd (upd wk ((nI (n + 1)) : Int32).toNatClampNeg x8) (x6 : Int32).toNatClampNeg x7) wn) := hD
        refine jv_iinc (a := (-1)) hx hb dA_shuffle_66 hl (k := 3) rfl (by decide) (by decide) (fun x9 ex9 ls hl => ?_)
        have hl : lv_has ls 6 [(3, .int x9), (5, .int x7), (4, .int x6), (2, .int x5), (0, .ref (xo_a g))] := hl
        refine lv_goto (tgt := 9) hx hb dA_shuffle_69 (by decide) ?_
        rw [nI_dec] at ex9
        subst ex9 ex8 ex7 ex6 ex5
        simp only [sh_lp, sh_x, sh_j] at K
        exact ih _ _ _ _ _ _ ls (lv_sub hl [0, 3, 4] rfl) hP hD hSS (by omega) K
  refine hloop 51 x1 T (g_sorted dk) 0 _ _ ls (by have h9 := lv_sub hl [0, 1, 2] rfl; subst ex2; exact h9) hP hD hSS (by decide) (fun H locs ls hl hP hD hSS => ?_)
  clear hloop
  exact mw_vret hx hb hr hlk dA_shuffle_72 hP hSS (by subst ex2 ex1; (try simp only []) <;> rfl)
end
section
/-! a card onto the board -/
section VH
variable {p : Program} {l : Launch} {e : Env} {R : Room} {s : State} {m : MethodId} {args : Array Value} {below : List Frame} {meth : Method} {c : Code} {H : Heap} {locs : List Loc} {cells slots : Nat} {Q : State → Prop}
variable {cc b : ByteArray} {pc nL n d index k o : Nat} {ls : Array Slot} {rest st0 : List Value} {own C : String} {y y0 : MethodName} {b0 : ByteArray} {n0 : Nat} {ret ret0 : Option FieldType} {av : List Value} {B : State → Prop} {r : Value}
/-- a pure call in a heap that has changed -/
theorem pu_VH (hM : pu_M l y b n ret d (.ref o :: av) B r) (he : st0 = av.reverse ++ .ref o :: rest) (hc : cv_W own index C y b n ret k) (S : CallFix p m c cc nL s args (wd y0 b0 n0 ret0) own) (hBl : bl_F B) (hB : ∀ U : State, U.heap = H → s.WarmedH U.vm → B U) (hrc : ∃ cell : Cell, H[o]? = some cell ∧ cell.vm.isStatics = false ∧ s.vm.findClass C = some cell.cls)
    (hR : (d + 1 ≤ R.frames ∧ 8 + (n + 11) + 70 * d ≤ R.locals)) (hl : ls.size = nL) (hk : av.length = k) (hst : (rest.map fun v => v.category).sum ≤ 8) (hf : cells ≤ R.cells ∧ slots ≤ R.slots) (hdg : decode cc pc = .ok (.invokevirtual index, 3))
    (kk : W p l e R s m args below meth c H locs cells slots Q (F0 m (pc + 3) ls (r :: rest))) : W p l e R s m args below meth c H locs cells slots Q (F0 m pc ls st0) := by
  subst he
  exact pu_call (va_runV (C := C) (b := o) (As := av) (rest := rest) S hM (cwV k S.2.2.2.2 (cv_good hc) rfl rfl rfl hc.2.2.2.2.2 hR) ⟨bl_blind hBl, hrc, fun U hU hW => ⟨rfl, hB U hU hW⟩⟩ rfl hk hl rfl (by show 2 * 0 + _ ≤ 8; omega) hdg hf) kk
end VH
def g_T1 (T : Nat → Int64) (k : Int32) : Nat → Int64 := vp_updL T (6 : Int32).toNatClampNeg (T (6 : Int32).toNatClampNeg ||| jl 1 k)
set_option maxHeartbeats 4000000 in
set_option maxRecDepth 100000 in
theorem cA_boardSize_w (l : Launch) (g : xo_E) (T : Nat → Int64) (dk : Nat → Int32) (dn : Int32)   : pu_M l yA_boardSize bA_boardSize 1 (some .int) 1 [.ref (xo_a g)] (xw_F g T dk dn) (.int (g_bs T)) := by
  refine Met.ofW (cc := bA_boardSize) (maxL := 1) (ret := (some .int)) (by decide) rfl ?_
  intro p e s m args below meth c s₁ BB hml hv
  obtain ⟨rfl, hB⟩ := hv
  have hx := BB.exec
  have hb := BB.bytes
  have hr := BB.returns
  have hlk := BB.notSynchronized
  have hts := atoms_spec (ws := wd yA_boardSize bA_boardSize 1 (some .int)) BB.pre
  have hown : s.vm.findClass "HandTables" = some m.cls := findClass_of_methodNamed BB.named
  have hS : CallFix p m c bA_boardSize 1 s _ (wd yA_boardSize bA_boardSize 1 (some .int)) "HandTables" := ⟨hx, hb, hml, hown, hts⟩
  obtain ⟨hP, hK⟩ := id hB
  have hl := lv_entry ([.ref (xo_a g)]) (n := 1) (Nat.le_of_ble_eq_true rfl)
  rw [lg_entry_eq]
  generalize (lg_sl ([.ref (xo_a g)]) ++ List.replicate (1 - (lg_sl ([.ref (xo_a g)])).length) Slot.unset).toArray = ls at hl ⊢
  have hl : lv_has ls 1 [(0, .ref (xo_a g))] := hl
  refine lv_aload_n hx hb dA_boardSize_0 rfl (lv_at hl 0 rfl) ?_
  refine va_get (D := g.1) (ci := 0) (v := .ref (xo_t g)) (C := "HandTables") (T := T_A) (N := 3) hx hb hts (fun w hw => wd_in (u_inA w hw)) hown hK hP 0 rfl rfl 0 (by decide) (hts _ (wd_in (gw_mem 49 rfl rfl))) (fun _ h => h) rfl dA_boardSize_1 ?_
  refine lv_bipush (v := 6) hx hb dA_boardSize_4 (by decide) ?_
  refine va_lald hx hb hK hP 1 0 rfl rfl (by unfold vp_in; decide) dA_boardSize_6 ?_
  refine pu_S (cJ_bitCount l _) rfl kA_J_bitCount hS bl_T trivial rfl ⟨Nat.le_of_ble_eq_true rfl, Nat.le_of_ble_eq_true rfl⟩ hl.1 rfl (Nat.le_of_ble_eq_true rfl) ⟨Nat.zero_le _, Nat.zero_le _⟩ dA_boardSize_7 ?_
  exact pu_iret hx hb hr hlk dA_boardSize_10 (by rfl)
set_option maxHeartbeats 4000000 in
set_option maxRecDepth 100000 in
theorem cA_board (l : Launch) (g : xo_E) (T : Nat → Int64) (dk : Nat → Int32) (dn : Int32) (k : Int32) (hst : l.stackTraces = false) (hap : xo_ap g)  : mu_M l yA_board bA_board 4 (some .int) 7 [.ref (xo_a g), .int k] g (xo_F g T dk dn) (if q_card k then .inl ex_IA else if 5 - g_bs T = 0 then .inr (some (.int (-1)), T, dk, dn) else if g_stand T &&& jl 1 k = 0 then .inr (some (.int (g_bs (g_T1 T k))), g_T1 T k, dk, dn) else .inr (some (.int (-1)), T, dk, dn)) := by
  refine vx_ofW (cc := bA_board) (maxL := 4) (ret := (some .int)) (by decide) rfl ?_
  intro p e s m args below meth c s₁ BB hml hout hv
  obtain ⟨rfl, hB⟩ := hv
  have hx := BB.exec
  have hb := BB.bytes
  have hr := BB.returns
  have hlk := BB.notSynchronized
  have hts := atoms_spec (ws := wd yA_board bA_board 4 (some .int)) BB.pre
  have hown : s.vm.findClass "HandTables" = some m.cls := findClass_of_methodNamed BB.named
  have hS : CallFix p m c bA_board 4 s _ (wd yA_board bA_board 4 (some .int)) "HandTables" := ⟨hx, hb, hml, hown, hts⟩
  obtain ⟨hTa, hEx, hP, hK⟩ := id hB
  have hD := xo_D T dk dn hap
  have hSS : va_S (mu_fr g) s.heap s.heap [] := va_S.rf
  obtain ⟨⟨t1, hT1⟩, ⟨t2, hT2⟩, ⟨t3, hT3⟩, ⟨t4, hT4⟩⟩ := id hTa
  have hl := lv_entry ([.ref (xo_a g), .int k]) (n := 4) (Nat.le_of_ble_eq_true rfl)
  rw [lg_entry_eq]
  generalize (lg_sl ([.ref (xo_a g), .int k]) ++ List.replicate (4 - (lg_sl ([.ref (xo_a g), .int k])).length) Slot.unset).toArray = ls at hl ⊢
  have hl : lv_has ls 4 [(0, .ref (xo_a g)), (1, .int k)] := hl
  refine lv_iload_n hx hb dA_board_0 rfl (lv_at hl 1 rfl) ?_
  refine mu_S (cA_requireCard l _ hst) rfl kA_A_requireCard hS bl_ex hEx ⟨Nat.le_of_ble_eq_true rfl, Nat.le_of_ble_eq_true rfl⟩ hl.1 rfl (Nat.le_of_ble_eq_true rfl) ⟨Nat.le_of_ble_eq_true rfl, Nat.le_of_ble_eq_true rfl⟩ dA_board_1 hout hlk (fun E h9 => ?_) (fun v hv => ?_)
  · obtain ⟨hc1, rfl⟩ := ri_then h9
    (try simp only [if_pos hc1]) <;> rfl
  obtain ⟨hc1, rfl⟩ := ri_else hv
  refine lv_lconst (v := 1) hx hb dA_board_4 (by decide) ?_
  refine lv_iload_n hx hb dA_board_5 rfl (lv_at hl 1 rfl) ?_
  refine jv_lshl hx hb dA_board_6 ?_
  refine jt_topl (fun x2 ex2 => ?_)
  refine lv_lstore_n (lv' := [(2, .long x2), (0, .ref (xo_a g)), (1, .int k)]) hx hb dA_board_7 rfl hl (by decide) rfl (fun ls hl => ?_)
  refine lv_aload_n hx hb dA_board_8 rfl (lv_at hl 1 rfl) ?_
  refine pu_V (cA_missing l g T dk dn ) rfl kA_A_missing hS bl_xo hB rfl (xo_rc hB) ⟨Nat.le_of_ble_eq_true rfl, Nat.le_of_ble_eq_true rfl⟩ hl.1 rfl (Nat.le_of_ble_eq_true rfl) ⟨Nat.zero_le _, Nat.zero_le _⟩ dA_board_9 ?_
  refine lv_if_eq (tgt := 26) hx hb dA_board_12 (by decide) (fun hc3 => ?_) (fun hc3 => ?_)
  · refine lv_iconst (v := (-1)) hx hb dA_board_26 (by decide) ?_
    exact mu_iret hx hb hr hlk dA_board_27 hP hSS (by subst ex2; (try simp only [if_neg hc1, if_pos hc3]) <;> rfl)
  · refine lv_aload_n hx hb dA_board_15 rfl (lv_at hl 1 rfl) ?_
    refine pu_V (cA_standing l g T dk dn ) rfl kA_A_standing hS bl_xo hB rfl (xo_rc hB) ⟨Nat.le_of_ble_eq_true rfl, Nat.le_of_ble_eq_true rfl⟩ hl.1 rfl (Nat.le_of_ble_eq_true rfl) ⟨Nat.zero_le _, Nat.zero_le _⟩ dA_board_16 ?_
    refine lv_lload_n hx hb dA_board_19 rfl (lv_at hl 0 rfl) ?_
    refine lv_land hx hb dA_board_20 ?_
    refine lv_lconst (v := 0) hx hb dA_board_21 (by decide) ?_
    refine jv_lceq (tgt := 28) hx hb dA_board_22 dA_board_23 (by decide) (fun hc4 => ?_) (fun hc4 => ?_)
    · refine lv_aload_n hx hb dA_board_28 rfl (lv_at hl 1 rfl) ?_
      refine va_get (D := g.1) (ci := 0) (v := .ref (xo_t g)) (C := "HandTables") (T := T_A) (N := 3) hx hb hts (fun w hw => wd_in (u_inA w hw)) hown hK hP 0 rfl rfl 0 (by decide) (hts _ (wd_in (gw_mem 49 rfl rfl))) (fun _ h => h) rfl dA_board_29 ?_
      refine lv_bipush (v := 6) hx hb dA_board_32 (by decide) ?_
      refine lv_dup2_11 hx hb dA_board_34 rfl rfl ?_
      refine va_lald hx hb hK hP 1 0 rfl rfl (by unfold vp_in; decide) dA_board_35 ?_
      refine lv_lload_n hx hb dA_board_36 rfl (lv_at hl 0 rfl) ?_
      refine lv_lor hx hb dA_board_37 ?_
      refine jt_topl (fun x5 ex5 => ?_)
      refine va_last (x := x5) hx hb hK hP hD hSS 1 0 rfl rfl (by unfold vp_in; decide) dA_board_38 (fun H locs hP hD hSS => ?_)
      have hP : va_P g.1 cl_X (xo_W g (vp_updL T (6 : Int32).toNatClampNeg x5) dk dn) H := hP
      have hD : va_D (mu_fr g) (xo_W g (vp_updL T (6 : Int32).toNatClampNeg x5) dk dn) := hD
      refine lv_aload_n hx hb dA_board_39 rfl (lv_at hl 1 rfl) ?_
      refine pu_VH (cA_boardSize_w l g (vp_updL T (6 : Int32).toNatClampNeg x5) dk dn) rfl kA_A_boardSize hS bl_xw (fun U hU hW => ⟨by rw [hU]; exact hP, va_K.moved hW.alike hK⟩) (va_recv (q0 := 0) (ci := 0) (q := ("HandTables", T_A, 3)) hK hP rfl rfl) ⟨Nat.le_of_ble_eq_true rfl, Nat.le_of_ble_eq_true rfl⟩ hl.1 rfl (Nat.le_of_ble_eq_true rfl) ⟨Nat.zero_le _, Nat.zero_le _⟩ dA_board_40 ?_
      exact mu_iret hx hb hr hlk dA_board_43 hP hSS (by subst ex5 ex2; (try simp only [if_neg hc1, if_neg hc3, if_pos hc4]) <;> rfl)
    · refine lv_iconst (v := (-1)) hx hb dA_board_26 (by decide) ?_
      exact mu_iret hx hb hr hlk dA_board_27 hP hSS (by subst ex2; (try simp only [if_neg hc1, if_neg hc3, if_neg hc4]) <;> rfl)
end
section
/-! the class's constructor -/
section MA
variable {p : Program} {l : Launch} {e : Env} {R : Room} {s : State} {m : MethodId} {args : Array Value} {below : List Frame} {meth : Method} {c : Code} {H : Heap} {locs : List Loc} {cells slots : Nat} {Q : State → Prop}
variable {cc b : ByteArray} {pc nL n d index k o : Nat} {ls : Array Slot} {rest st0 : List Value} {own C : String} {y y0 : MethodName} {b0 : ByteArray} {n0 : Nat} {ret ret0 : Option FieldType} {av : List Value} {B : State → Prop} {g : xo_E} {T : Nat → Int64} {dk : Nat → Int32} {dn : Int32} {A0 : Nat → Prop}
/-- as mw_V, where more may have changed before -/
theorem mw_VA (hM : mw_M l y b n ret d (.ref o :: av) g B (.inr (none, T, dk, dn))) (he : st0 = av.reverse ++ .ref o :: rest) (hc : cv_W own index C y b n ret k) (S : CallFix p m c cc nL s args (wd y0 b0 n0 ret0) own) (hB : ∀ U : State, U.heap = H → s.WarmedH U.vm → B U) (hBl : bl_F B) (hrc : ∃ cell : Cell, H[o]? = some cell ∧ cell.vm.isStatics = false ∧ s.vm.findClass C = some cell.cls)
    (hR : (d + 1 ≤ R.frames ∧ 8 + (n + 11) + 70 * d ≤ R.locals)) (hl : ls.size = nL) (hk : av.length = k) (hst : (rest.map fun v => v.category).sum ≤ 8) (hf : cells ≤ R.cells ∧ slots ≤ R.slots) (hdg : decode cc pc = .ok (.invokevirtual index, 3)) (hS : va_S A0 s.heap H locs) (hsub : ∀ q, mu_fr g q → A0 q)
    (kk : ∀ (H1 : Heap) (locs1 : List Loc), va_P g.1 cl_X (xo_W g T dk dn) H1 → va_S A0 s.heap H1 locs1 → W p l e R s m args below meth c H1 locs1 cells slots Q (F0 m (pc + 3) ls rest)) : W p l e R s m args below meth c H locs cells slots Q (F0 m pc ls st0) := by
  subst he
  have hr := va_runV (C := C) (b := o) (As := av) (rest := rest) (e := e) (below := below) (meth := meth) (H := H) (locs := locs) (cells := cells) (slots := slots) (g := F0 m pc ls (av.reverse ++ .ref o :: rest)) S hM (cwV k S.2.2.2.2 (cv_good hc) rfl rfl rfl hc.2.2.2.2.2 hR) ⟨bl_blind hBl, hrc, fun U hU hW => ⟨rfl, hB U hU hW⟩⟩ rfl hk hl rfl (by show 2 * 0 + _ ≤ 8; omega) hdg hf
  intro X hX Y
  obtain ⟨v, st₀, t, T', L, h0, X', hL, e1, e2, ⟨v', T1, k1, n1, hres, hv, hz, hp, hk1⟩, st⟩ := hr X hX Y
  cases hv
  cases hres
  rw [h0] at hz hk1
  obtain ⟨t2, a1, b1⟩ := kk T'.heap (locs ++ L) (by rw [e1]; exact hp) ⟨Nat.le_trans hS.1 (by rw [e1]; exact hz), fun q h1 h2 => by rw [e1, hk1 q (Nat.lt_of_lt_of_le h1 hS.1) (fun z => h2 (hsub q z))]; exact hS.2.1 q h1 h2, fun q hq => by
      rcases List.mem_append.mp hq with h | h
      · exact hS.2.2 q h
      · exact hsub _ (hL q h)⟩ T' rfl X'
  exact ⟨t2, st t2 a1, b1⟩
end MA
def in_A (h0 sz : Nat) (q : Nat) : Prop := q = h0 ∨ sz ≤ q
def in_Q (D : va_G) (h0 : Nat) : Array Value → State → Outcome → State → Prop := fun _ st o t => o = .returned none ∧ ∃ (cJ cI : ClassId) (ta td : Nat), xo_ap (D, cJ, cI, h0, ta, td) ∧ va_P D cl_X (xo_W (D, cJ, cI, h0, ta, td) (fun _ => 0) (g_sorted (fun _ => 0)) 0) t.heap ∧ va_K D cl_X [(cJ, .long), (cI, .int)] t ∧ st.heap.size ≤ ta ∧ st.heap.size ≤ td ∧ va_F (in_A h0 st.heap.size) st t
set_option maxHeartbeats 4000000 in
set_option maxRecDepth 100000 in
theorem cA_init (l : Launch) (D : va_G) (h0 sz : Nat) : Met l yA_init (wd yA_init bA_init 1 none) (rmD 2 2 59) (va_Pc [.ref h0] (fun U => U.heap.size = sz ∧ h0 < sz ∧ va_P D cl_X [(h0, .inr (0, [.null, .null, .int 0]))] U.heap ∧ va_K D cl_X [] U)) (in_Q D h0) 2 59 (in_A h0 sz) := by
  refine Met.ofW (cc := bA_init) (maxL := 1) (ret := none) (by decide) rfl ?_
  intro p e s m args below meth c s₁ BB hml hv
  obtain ⟨rfl, hsz, hlt, hP, hK⟩ := hv
  subst hsz
  have hx := BB.exec
  have hb := BB.bytes
  have hr := BB.returns
  have hlk := BB.notSynchronized
  have hin : meth.name = "<init>" := (name_of_methodNamed BB.named BB.method).1
  have hts := atoms_spec (ws := wd yA_init bA_init 1 none) BB.pre
  have hown : s.vm.findClass "HandTables" = some m.cls := findClass_of_methodNamed BB.named
  have hS9 : CallFix p m c bA_init 1 s _ (wd yA_init bA_init 1 none) "HandTables" := ⟨hx, hb, hml, hown, hts⟩
  have hD : va_D (in_A h0 s.heap.size) [(h0, .inr (0, [.null, .null, .int 0]))] := by
    refine ⟨fun i j x y hi hj _ => ?_, fun k q hk => ?_⟩
    · match i, j with
      | 0, 0 => rfl
      | _, n + 1 => cases hj
      | n + 1, 0 => cases hi
    · match k with
      | 0 => cases hk; exact Or.inl rfl
      | n + 1 => cases hk
  have hA : ∀ q : Nat, s.heap.size ≤ q → in_A h0 s.heap.size q := fun q h => Or.inr h
  have hS : va_S (in_A h0 s.heap.size) s.heap s.heap [] := va_S.rf
  have hl := lv_entry ([.ref h0]) (n := 1) (Nat.le_of_ble_eq_true rfl)
  rw [lg_entry_eq]
  generalize (lg_sl ([.ref h0]) ++ List.replicate (1 - (lg_sl ([.ref h0])).length) Slot.unset).toArray = ls at hl ⊢
  have hl : lv_has ls 1 [(0, .ref h0)] := hl
  refine lv_aload_n hx hb dA_init_0 rfl (lv_at hl 0 rfl) ?_
  refine W.objInit hx hb hown (hts _ (wd_in (gw_mem 42 rfl rfl))) (hts _ (wd_in (gw_mem 43 rfl rfl))) (hts _ (wd_in (gw_mem 44 rfl rfl))) rfl (by rw [hml]; exact hl.1) rfl dA_init_1 (Nat.le_of_ble_eq_true rfl) (Nat.le_of_ble_eq_true rfl) ?_
  refine W.eq (g2 := F0 m 4 ls []) rfl ?_
  refine lv_aload_n hx hb dA_init_4 rfl (lv_at hl 0 rfl) ?_
  refine lv_bipush (v := 7) hx hb dA_init_5 (by decide) ?_
  refine va_newa (ty := .long) (N' := 7) (a0 := (7, .inr (.inl fun _ => 0))) hx hb (hts _ (wd_in (gw_mem 59 rfl rfl))) rfl hK hP hD hS hA (fun cA => rfl) (by decide) (by decide) (by decide) (Nat.le_of_ble_eq_true rfl) (Nat.le_of_ble_eq_true rfl) dA_init_7 (fun q1 cJ H hK hP hD hS => ?_)
  have hP : va_P D cl_X [(h0, .inr (0, [.null, .null, .int 0])), (q1, .inl (cJ, 7, .inr (.inl fun _ => 0)))] H := hP
  have hD : va_D (in_A h0 s.heap.size) [(h0, .inr (0, [.null, .null, .int 0])), (q1, .inl (cJ, 7, .inr (.inl fun _ => 0)))] := hD
  refine va_putF (D := D) (ci := 0) (v := .ref q1) (ty := .array .long) (C := "HandTables") (T := T_A) (N := 3) hx hb hts (fun w hw => wd_in (u_inA w hw)) tf_A tf_A_ok n_A hown hK hP hD hS 0 rfl rfl 0 (by decide) (hts _ (wd_in (gw_mem 49 rfl rfl))) (fun _ h9 => h9) rfl hin rfl (by decide +kernel) rfl rfl (Nat.le_of_ble_eq_true rfl) dA_init_9 (fun H locs hP hD hS => ?_)
  have hP : va_P D cl_X [(h0, .inr (0, [.ref q1, .null, .int 0])), (q1, .inl (cJ, 7, .inr (.inl fun _ => 0)))] H := hP
  have hD : va_D (in_A h0 s.heap.size) [(h0, .inr (0, [.ref q1, .null, .int 0])), (q1, .inl (cJ, 7, .inr (.inl fun _ => 0)))] := hD
  refine lv_aload_n hx hb dA_init_12 rfl (lv_at hl 0 rfl) ?_
  refine lv_bipush (v := 52) hx hb dA_init_13 (by decide) ?_
  refine va_newa (ty := .int) (N' := 52) (a0 := (52, .inl fun _ => 0)) hx hb (hts _ (wd_in (gw_mem 60 rfl rfl))) rfl hK hP hD hS hA (fun cA => rfl) (by decide) (by decide) (by decide) (Nat.le_of_ble_eq_true rfl) (Nat.le_of_ble_eq_true rfl) dA_init_15 (fun q2 cI H hK hP hD hS => ?_)
  have hP : va_P D cl_X [(h0, .inr (0, [.ref q1, .null, .int 0])), (q1, .inl (cJ, 7, .inr (.inl fun _ => 0))), (q2, .inl (cI, 52, .inl fun _ => 0))] H := hP
  have hD : va_D (in_A h0 s.heap.size) [(h0, .inr (0, [.ref q1, .null, .int 0])), (q1, .inl (cJ, 7, .inr (.inl fun _ => 0))), (q2, .inl (cI, 52, .inl fun _ => 0))] := hD
  refine va_putF (D := D) (ci := 0) (v := .ref q2) (ty := .array .int) (C := "HandTables") (T := T_A) (N := 3) hx hb hts (fun w hw => wd_in (u_inA w hw)) tf_A tf_A_ok n_A hown hK hP hD hS 0 rfl rfl 1 (by decide) (hts _ (wd_in (gw_mem 50 rfl rfl))) (fun _ h9 => h9) rfl hin rfl (by decide +kernel) rfl rfl (Nat.le_of_ble_eq_true rfl) dA_init_17 (fun H locs hP hD hS => ?_)
  have hP : va_P D cl_X (xo_W (D, cJ, cI, h0, q1, q2) (fun _ => 0) (fun _ => 0) 0) H := hP
  have hD : va_D (in_A h0 s.heap.size) (xo_W (D, cJ, cI, h0, q1, q2) (fun _ => 0) (fun _ => 0) 0) := hD
  have hK : va_K D cl_X [(cJ, .long), (cI, .int)] s := hK
  have hap : xo_ap (D, cJ, cI, h0, q1, q2) := ⟨fun z => absurd (hD.1 0 1 _ _ rfl rfl z) (by decide), fun z => absurd (hD.1 0 2 _ _ rfl rfl z) (by decide), fun z => absurd (hD.1 1 2 _ _ rfl rfl z) (by decide)⟩
  have h1 : s.heap.size ≤ q1 := by
    rcases hD.2 1 _ rfl with z | z
    · exact absurd z.symm hap.1
    · exact z
  have h2 : s.heap.size ≤ q2 := by
    rcases hD.2 2 _ rfl with z | z
    · exact absurd z.symm hap.2.1
    · exact z
  refine lv_aload_n hx hb dA_init_20 rfl (lv_at hl 0 rfl) ?_
  refine mw_VA (cA_sortDeck l (D, cJ, cI, h0, q1, q2) (fun _ => 0) (fun _ => 0) 0 hap) rfl kA_A_sortDeck hS9 (fun U hU hW => ⟨by rw [hU]; exact hP, va_K.moved hW.alike hK⟩) bl_xw (va_recv (q0 := 0) (ci := 0) (q := ("HandTables", T_A, 3)) hK hP rfl rfl) ⟨Nat.le_of_ble_eq_true rfl, Nat.le_of_ble_eq_true rfl⟩ hl.1 rfl (Nat.le_of_ble_eq_true rfl) ⟨Nat.le_of_ble_eq_true rfl, Nat.le_of_ble_eq_true rfl⟩ dA_init_21 hS (fun q hq => by
    rcases hq with z | z | z
    · exact Or.inl z
    · rw [z]; exact Or.inr h1
    · rw [z]; exact Or.inr h2) (fun H locs hP hS => ?_)
  exact W.vret hx hb hr (fun t ht hW => ⟨rfl, cJ, cI, q1, q2, hap, by rw [ht]; exact hP, va_K.moved hW.alike hK, h1, h2, hS.F ht⟩) hS.2.2 dA_init_24
end
section
/-! names of methods, their code, and a row that decodes each instruction (by program out of javap's listing) -/
abbrev bL_value : ByteArray := method_3_code
def yL_value : MethodName := ⟨"HandTablesLaw", "value", "(LHandTables;J[J)I"⟩
theorem dL_value_0 : decode bL_value 0 = .ok (.aload_n 3, 1) := by decide +kernel
theorem dL_value_1 : decode bL_value 1 = .ok (.iconst 0, 1) := by decide +kernel
theorem dL_value_2 : decode bL_value 2 = .ok (.aload_n 0, 1) := by decide +kernel
theorem dL_value_3 : decode bL_value 3 = .ok (.lload_n 1, 1) := by decide +kernel
theorem dL_value_4 : decode bL_value 4 = .ok (.invokevirtual 7, 3) := by decide +kernel
theorem dL_value_7 : decode bL_value 7 = .ok (.i2l, 1) := by decide +kernel
theorem dL_value_8 : decode bL_value 8 = .ok (.lastore, 1) := by decide +kernel
theorem dL_value_9 : decode bL_value 9 = .ok (.goto 7, 3) := by decide +kernel
theorem dL_value_12 : decode bL_value 12 = .ok (.astore 4, 2) := by decide +kernel
theorem dL_value_14 : decode bL_value 14 = .ok (.iconst 1, 1) := by decide +kernel
theorem dL_value_15 : decode bL_value 15 = .ok (.ireturn, 1) := by decide +kernel
theorem dL_value_16 : decode bL_value 16 = .ok (.iconst 0, 1) := by decide +kernel
theorem dL_value_17 : decode bL_value 17 = .ok (.ireturn, 1) := by decide +kernel
abbrev bL_category : ByteArray := method_4_code
def yL_category : MethodName := ⟨"HandTablesLaw", "category", "(LHandTables;J[J)I"⟩
theorem dL_category_0 : decode bL_category 0 = .ok (.aload_n 3, 1) := by decide +kernel
theorem dL_category_1 : decode bL_category 1 = .ok (.iconst 0, 1) := by decide +kernel
theorem dL_category_2 : decode bL_category 2 = .ok (.aload_n 0, 1) := by decide +kernel
theorem dL_category_3 : decode bL_category 3 = .ok (.lload_n 1, 1) := by decide +kernel
theorem dL_category_4 : decode bL_category 4 = .ok (.invokevirtual 15, 3) := by decide +kernel
theorem dL_category_7 : decode bL_category 7 = .ok (.i2l, 1) := by decide +kernel
theorem dL_category_8 : decode bL_category 8 = .ok (.lastore, 1) := by decide +kernel
theorem dL_category_9 : decode bL_category 9 = .ok (.goto 7, 3) := by decide +kernel
theorem dL_category_12 : decode bL_category 12 = .ok (.astore 4, 2) := by decide +kernel
theorem dL_category_14 : decode bL_category 14 = .ok (.iconst 1, 1) := by decide +kernel
theorem dL_category_15 : decode bL_category 15 = .ok (.ireturn, 1) := by decide +kernel
theorem dL_category_16 : decode bL_category 16 = .ok (.iconst 0, 1) := by decide +kernel
theorem dL_category_17 : decode bL_category 17 = .ok (.ireturn, 1) := by decide +kernel
abbrev bL_best : ByteArray := method_5_code
def yL_best : MethodName := ⟨"HandTablesLaw", "best", "(LHandTables;J[J)I"⟩
theorem dL_best_0 : decode bL_best 0 = .ok (.aload_n 3, 1) := by decide +kernel
theorem dL_best_1 : decode bL_best 1 = .ok (.iconst 0, 1) := by decide +kernel
theorem dL_best_2 : decode bL_best 2 = .ok (.aload_n 0, 1) := by decide +kernel
theorem dL_best_3 : decode bL_best 3 = .ok (.lload_n 1, 1) := by decide +kernel
theorem dL_best_4 : decode bL_best 4 = .ok (.invokevirtual 18, 3) := by decide +kernel
theorem dL_best_7 : decode bL_best 7 = .ok (.lastore, 1) := by decide +kernel
theorem dL_best_8 : decode bL_best 8 = .ok (.goto 7, 3) := by decide +kernel
theorem dL_best_11 : decode bL_best 11 = .ok (.astore 4, 2) := by decide +kernel
theorem dL_best_13 : decode bL_best 13 = .ok (.iconst 1, 1) := by decide +kernel
theorem dL_best_14 : decode bL_best 14 = .ok (.ireturn, 1) := by decide +kernel
theorem dL_best_15 : decode bL_best 15 = .ok (.iconst 0, 1) := by decide +kernel
theorem dL_best_16 : decode bL_best 16 = .ok (.ireturn, 1) := by decide +kernel
abbrev bL_worth : ByteArray := method_6_code
def yL_worth : MethodName := ⟨"HandTablesLaw", "worth", "(LHandTables;I[J)I"⟩
theorem dL_worth_0 : decode bL_worth 0 = .ok (.aload_n 2, 1) := by decide +kernel
theorem dL_worth_1 : decode bL_worth 1 = .ok (.iconst 0, 1) := by decide +kernel
theorem dL_worth_2 : decode bL_worth 2 = .ok (.aload_n 0, 1) := by decide +kernel
theorem dL_worth_3 : decode bL_worth 3 = .ok (.iload_n 1, 1) := by decide +kernel
theorem dL_worth_4 : decode bL_worth 4 = .ok (.invokevirtual 22, 3) := by decide +kernel
theorem dL_worth_7 : decode bL_worth 7 = .ok (.i2l, 1) := by decide +kernel
theorem dL_worth_8 : decode bL_worth 8 = .ok (.lastore, 1) := by decide +kernel
theorem dL_worth_9 : decode bL_worth 9 = .ok (.goto 6, 3) := by decide +kernel
theorem dL_worth_12 : decode bL_worth 12 = .ok (.astore_n 3, 1) := by decide +kernel
theorem dL_worth_13 : decode bL_worth 13 = .ok (.iconst 1, 1) := by decide +kernel
theorem dL_worth_14 : decode bL_worth 14 = .ok (.ireturn, 1) := by decide +kernel
theorem dL_worth_15 : decode bL_worth 15 = .ok (.iconst 0, 1) := by decide +kernel
theorem dL_worth_16 : decode bL_worth 16 = .ok (.ireturn, 1) := by decide +kernel
abbrev bL_sets : ByteArray := method_7_code
def yL_sets : MethodName := ⟨"HandTablesLaw", "sets", "(LHandTables;I[J)I"⟩
theorem dL_sets_0 : decode bL_sets 0 = .ok (.aload_n 2, 1) := by decide +kernel
theorem dL_sets_1 : decode bL_sets 1 = .ok (.iconst 0, 1) := by decide +kernel
theorem dL_sets_2 : decode bL_sets 2 = .ok (.aload_n 0, 1) := by decide +kernel
theorem dL_sets_3 : decode bL_sets 3 = .ok (.iload_n 1, 1) := by decide +kernel
theorem dL_sets_4 : decode bL_sets 4 = .ok (.invokevirtual 26, 3) := by decide +kernel
theorem dL_sets_7 : decode bL_sets 7 = .ok (.i2l, 1) := by decide +kernel
theorem dL_sets_8 : decode bL_sets 8 = .ok (.lastore, 1) := by decide +kernel
theorem dL_sets_9 : decode bL_sets 9 = .ok (.goto 6, 3) := by decide +kernel
theorem dL_sets_12 : decode bL_sets 12 = .ok (.astore_n 3, 1) := by decide +kernel
theorem dL_sets_13 : decode bL_sets 13 = .ok (.iconst 1, 1) := by decide +kernel
theorem dL_sets_14 : decode bL_sets 14 = .ok (.ireturn, 1) := by decide +kernel
theorem dL_sets_15 : decode bL_sets 15 = .ok (.iconst 0, 1) := by decide +kernel
theorem dL_sets_16 : decode bL_sets 16 = .ok (.ireturn, 1) := by decide +kernel
abbrev bL_first : ByteArray := method_8_code
def yL_first : MethodName := ⟨"HandTablesLaw", "first", "(LHandTables;I[J)I"⟩
theorem dL_first_0 : decode bL_first 0 = .ok (.aload_n 2, 1) := by decide +kernel
theorem dL_first_1 : decode bL_first 1 = .ok (.iconst 0, 1) := by decide +kernel
theorem dL_first_2 : decode bL_first 2 = .ok (.aload_n 0, 1) := by decide +kernel
theorem dL_first_3 : decode bL_first 3 = .ok (.iload_n 1, 1) := by decide +kernel
theorem dL_first_4 : decode bL_first 4 = .ok (.invokevirtual 29, 3) := by decide +kernel
theorem dL_first_7 : decode bL_first 7 = .ok (.i2l, 1) := by decide +kernel
theorem dL_first_8 : decode bL_first 8 = .ok (.lastore, 1) := by decide +kernel
theorem dL_first_9 : decode bL_first 9 = .ok (.goto 6, 3) := by decide +kernel
theorem dL_first_12 : decode bL_first 12 = .ok (.astore_n 3, 1) := by decide +kernel
theorem dL_first_13 : decode bL_first 13 = .ok (.iconst 1, 1) := by decide +kernel
theorem dL_first_14 : decode bL_first 14 = .ok (.ireturn, 1) := by decide +kernel
theorem dL_first_15 : decode bL_first 15 = .ok (.iconst 0, 1) := by decide +kernel
theorem dL_first_16 : decode bL_first 16 = .ok (.ireturn, 1) := by decide +kernel
abbrev bL_seat : ByteArray := method_9_code
def yL_seat : MethodName := ⟨"HandTablesLaw", "seat", "(LHandTables;III[J)I"⟩
theorem dL_seat_0 : decode bL_seat 0 = .ok (.aload 4, 2) := by decide +kernel
theorem dL_seat_2 : decode bL_seat 2 = .ok (.iconst 0, 1) := by decide +kernel
theorem dL_seat_3 : decode bL_seat 3 = .ok (.aload_n 0, 1) := by decide +kernel
theorem dL_seat_4 : decode bL_seat 4 = .ok (.iload_n 1, 1) := by decide +kernel
theorem dL_seat_5 : decode bL_seat 5 = .ok (.iload_n 2, 1) := by decide +kernel
theorem dL_seat_6 : decode bL_seat 6 = .ok (.iload_n 3, 1) := by decide +kernel
theorem dL_seat_7 : decode bL_seat 7 = .ok (.invokevirtual 32, 3) := by decide +kernel
theorem dL_seat_10 : decode bL_seat 10 = .ok (.ifCond .eq 7, 3) := by decide +kernel
theorem dL_seat_13 : decode bL_seat 13 = .ok (.lconst 1, 1) := by decide +kernel
theorem dL_seat_14 : decode bL_seat 14 = .ok (.goto 4, 3) := by decide +kernel
theorem dL_seat_17 : decode bL_seat 17 = .ok (.lconst 0, 1) := by decide +kernel
theorem dL_seat_18 : decode bL_seat 18 = .ok (.lastore, 1) := by decide +kernel
theorem dL_seat_19 : decode bL_seat 19 = .ok (.goto 11, 3) := by decide +kernel
theorem dL_seat_22 : decode bL_seat 22 = .ok (.astore 5, 2) := by decide +kernel
theorem dL_seat_24 : decode bL_seat 24 = .ok (.iconst 1, 1) := by decide +kernel
theorem dL_seat_25 : decode bL_seat 25 = .ok (.ireturn, 1) := by decide +kernel
theorem dL_seat_26 : decode bL_seat 26 = .ok (.astore 5, 2) := by decide +kernel
theorem dL_seat_28 : decode bL_seat 28 = .ok (.iconst 2, 1) := by decide +kernel
theorem dL_seat_29 : decode bL_seat 29 = .ok (.ireturn, 1) := by decide +kernel
theorem dL_seat_30 : decode bL_seat 30 = .ok (.iconst 0, 1) := by decide +kernel
theorem dL_seat_31 : decode bL_seat 31 = .ok (.ireturn, 1) := by decide +kernel
abbrev bL_leave : ByteArray := method_10_code
def yL_leave : MethodName := ⟨"HandTablesLaw", "leave", "(LHandTables;I[J)I"⟩
theorem dL_leave_0 : decode bL_leave 0 = .ok (.aload_n 2, 1) := by decide +kernel
theorem dL_leave_1 : decode bL_leave 1 = .ok (.iconst 0, 1) := by decide +kernel
theorem dL_leave_2 : decode bL_leave 2 = .ok (.aload_n 0, 1) := by decide +kernel
theorem dL_leave_3 : decode bL_leave 3 = .ok (.iload_n 1, 1) := by decide +kernel
theorem dL_leave_4 : decode bL_leave 4 = .ok (.invokevirtual 38, 3) := by decide +kernel
theorem dL_leave_7 : decode bL_leave 7 = .ok (.ifCond .eq 7, 3) := by decide +kernel
theorem dL_leave_10 : decode bL_leave 10 = .ok (.lconst 1, 1) := by decide +kernel
theorem dL_leave_11 : decode bL_leave 11 = .ok (.goto 4, 3) := by decide +kernel
theorem dL_leave_14 : decode bL_leave 14 = .ok (.lconst 0, 1) := by decide +kernel
theorem dL_leave_15 : decode bL_leave 15 = .ok (.lastore, 1) := by decide +kernel
theorem dL_leave_16 : decode bL_leave 16 = .ok (.goto 6, 3) := by decide +kernel
theorem dL_leave_19 : decode bL_leave 19 = .ok (.astore_n 3, 1) := by decide +kernel
theorem dL_leave_20 : decode bL_leave 20 = .ok (.iconst 1, 1) := by decide +kernel
theorem dL_leave_21 : decode bL_leave 21 = .ok (.ireturn, 1) := by decide +kernel
theorem dL_leave_22 : decode bL_leave 22 = .ok (.iconst 0, 1) := by decide +kernel
theorem dL_leave_23 : decode bL_leave 23 = .ok (.ireturn, 1) := by decide +kernel
abbrev bL_board : ByteArray := method_11_code
def yL_board : MethodName := ⟨"HandTablesLaw", "board", "(LHandTables;I[J)I"⟩
theorem dL_board_0 : decode bL_board 0 = .ok (.aload_n 2, 1) := by decide +kernel
theorem dL_board_1 : decode bL_board 1 = .ok (.iconst 0, 1) := by decide +kernel
theorem dL_board_2 : decode bL_board 2 = .ok (.aload_n 0, 1) := by decide +kernel
theorem dL_board_3 : decode bL_board 3 = .ok (.iload_n 1, 1) := by decide +kernel
theorem dL_board_4 : decode bL_board 4 = .ok (.invokevirtual 42, 3) := by decide +kernel
theorem dL_board_7 : decode bL_board 7 = .ok (.i2l, 1) := by decide +kernel
theorem dL_board_8 : decode bL_board 8 = .ok (.lastore, 1) := by decide +kernel
theorem dL_board_9 : decode bL_board 9 = .ok (.goto 6, 3) := by decide +kernel
theorem dL_board_12 : decode bL_board 12 = .ok (.astore_n 3, 1) := by decide +kernel
theorem dL_board_13 : decode bL_board 13 = .ok (.iconst 1, 1) := by decide +kernel
theorem dL_board_14 : decode bL_board 14 = .ok (.ireturn, 1) := by decide +kernel
theorem dL_board_15 : decode bL_board 15 = .ok (.iconst 0, 1) := by decide +kernel
theorem dL_board_16 : decode bL_board 16 = .ok (.ireturn, 1) := by decide +kernel
abbrev bL_cards : ByteArray := method_12_code
def yL_cards : MethodName := ⟨"HandTablesLaw", "cards", "(LHandTables;I[J)I"⟩
theorem dL_cards_0 : decode bL_cards 0 = .ok (.aload_n 2, 1) := by decide +kernel
theorem dL_cards_1 : decode bL_cards 1 = .ok (.iconst 0, 1) := by decide +kernel
theorem dL_cards_2 : decode bL_cards 2 = .ok (.aload_n 0, 1) := by decide +kernel
theorem dL_cards_3 : decode bL_cards 3 = .ok (.iload_n 1, 1) := by decide +kernel
theorem dL_cards_4 : decode bL_cards 4 = .ok (.invokevirtual 45, 3) := by decide +kernel
theorem dL_cards_7 : decode bL_cards 7 = .ok (.lastore, 1) := by decide +kernel
theorem dL_cards_8 : decode bL_cards 8 = .ok (.goto 6, 3) := by decide +kernel
theorem dL_cards_11 : decode bL_cards 11 = .ok (.astore_n 3, 1) := by decide +kernel
theorem dL_cards_12 : decode bL_cards 12 = .ok (.iconst 1, 1) := by decide +kernel
theorem dL_cards_13 : decode bL_cards 13 = .ok (.ireturn, 1) := by decide +kernel
theorem dL_cards_14 : decode bL_cards 14 = .ok (.iconst 0, 1) := by decide +kernel
theorem dL_cards_15 : decode bL_cards 15 = .ok (.ireturn, 1) := by decide +kernel
abbrev bL_hand : ByteArray := method_13_code
def yL_hand : MethodName := ⟨"HandTablesLaw", "hand", "(LHandTables;I[J)I"⟩
theorem dL_hand_0 : decode bL_hand 0 = .ok (.aload_n 2, 1) := by decide +kernel
theorem dL_hand_1 : decode bL_hand 1 = .ok (.iconst 0, 1) := by decide +kernel
theorem dL_hand_2 : decode bL_hand 2 = .ok (.aload_n 0, 1) := by decide +kernel
theorem dL_hand_3 : decode bL_hand 3 = .ok (.iload_n 1, 1) := by decide +kernel
theorem dL_hand_4 : decode bL_hand 4 = .ok (.invokevirtual 49, 3) := by decide +kernel
theorem dL_hand_7 : decode bL_hand 7 = .ok (.i2l, 1) := by decide +kernel
theorem dL_hand_8 : decode bL_hand 8 = .ok (.lastore, 1) := by decide +kernel
theorem dL_hand_9 : decode bL_hand 9 = .ok (.goto 9, 3) := by decide +kernel
theorem dL_hand_12 : decode bL_hand 12 = .ok (.astore_n 3, 1) := by decide +kernel
theorem dL_hand_13 : decode bL_hand 13 = .ok (.iconst 1, 1) := by decide +kernel
theorem dL_hand_14 : decode bL_hand 14 = .ok (.ireturn, 1) := by decide +kernel
theorem dL_hand_15 : decode bL_hand 15 = .ok (.astore_n 3, 1) := by decide +kernel
theorem dL_hand_16 : decode bL_hand 16 = .ok (.iconst 2, 1) := by decide +kernel
theorem dL_hand_17 : decode bL_hand 17 = .ok (.ireturn, 1) := by decide +kernel
theorem dL_hand_18 : decode bL_hand 18 = .ok (.iconst 0, 1) := by decide +kernel
theorem dL_hand_19 : decode bL_hand 19 = .ok (.ireturn, 1) := by decide +kernel
abbrev bL_ahead : ByteArray := method_14_code
def yL_ahead : MethodName := ⟨"HandTablesLaw", "ahead", "(LHandTables;[J)I"⟩
theorem dL_ahead_0 : decode bL_ahead 0 = .ok (.aload_n 1, 1) := by decide +kernel
theorem dL_ahead_1 : decode bL_ahead 1 = .ok (.iconst 0, 1) := by decide +kernel
theorem dL_ahead_2 : decode bL_ahead 2 = .ok (.aload_n 0, 1) := by decide +kernel
theorem dL_ahead_3 : decode bL_ahead 3 = .ok (.invokevirtual 54, 3) := by decide +kernel
theorem dL_ahead_6 : decode bL_ahead 6 = .ok (.i2l, 1) := by decide +kernel
theorem dL_ahead_7 : decode bL_ahead 7 = .ok (.lastore, 1) := by decide +kernel
theorem dL_ahead_8 : decode bL_ahead 8 = .ok (.goto 6, 3) := by decide +kernel
theorem dL_ahead_11 : decode bL_ahead 11 = .ok (.astore_n 2, 1) := by decide +kernel
theorem dL_ahead_12 : decode bL_ahead 12 = .ok (.iconst 1, 1) := by decide +kernel
theorem dL_ahead_13 : decode bL_ahead 13 = .ok (.ireturn, 1) := by decide +kernel
theorem dL_ahead_14 : decode bL_ahead 14 = .ok (.iconst 0, 1) := by decide +kernel
theorem dL_ahead_15 : decode bL_ahead 15 = .ok (.ireturn, 1) := by decide +kernel
abbrev bL_boards : ByteArray := method_15_code
def yL_boards : MethodName := ⟨"HandTablesLaw", "boards", "(LHandTables;[J)I"⟩
theorem dL_boards_0 : decode bL_boards 0 = .ok (.aload_n 1, 1) := by decide +kernel
theorem dL_boards_1 : decode bL_boards 1 = .ok (.iconst 0, 1) := by decide +kernel
theorem dL_boards_2 : decode bL_boards 2 = .ok (.aload_n 0, 1) := by decide +kernel
theorem dL_boards_3 : decode bL_boards 3 = .ok (.invokevirtual 58, 3) := by decide +kernel
theorem dL_boards_6 : decode bL_boards 6 = .ok (.i2l, 1) := by decide +kernel
theorem dL_boards_7 : decode bL_boards 7 = .ok (.lastore, 1) := by decide +kernel
theorem dL_boards_8 : decode bL_boards 8 = .ok (.goto 6, 3) := by decide +kernel
theorem dL_boards_11 : decode bL_boards 11 = .ok (.astore_n 2, 1) := by decide +kernel
theorem dL_boards_12 : decode bL_boards 12 = .ok (.iconst 1, 1) := by decide +kernel
theorem dL_boards_13 : decode bL_boards 13 = .ok (.ireturn, 1) := by decide +kernel
theorem dL_boards_14 : decode bL_boards 14 = .ok (.iconst 0, 1) := by decide +kernel
theorem dL_boards_15 : decode bL_boards 15 = .ok (.ireturn, 1) := by decide +kernel
abbrev bL_wins : ByteArray := method_16_code
def yL_wins : MethodName := ⟨"HandTablesLaw", "wins", "(LHandTables;II[J)I"⟩
theorem dL_wins_0 : decode bL_wins 0 = .ok (.aload_n 3, 1) := by decide +kernel
theorem dL_wins_1 : decode bL_wins 1 = .ok (.iconst 0, 1) := by decide +kernel
theorem dL_wins_2 : decode bL_wins 2 = .ok (.aload_n 0, 1) := by decide +kernel
theorem dL_wins_3 : decode bL_wins 3 = .ok (.iload_n 1, 1) := by decide +kernel
theorem dL_wins_4 : decode bL_wins 4 = .ok (.iload_n 2, 1) := by decide +kernel
theorem dL_wins_5 : decode bL_wins 5 = .ok (.invokevirtual 61, 3) := by decide +kernel
theorem dL_wins_8 : decode bL_wins 8 = .ok (.i2l, 1) := by decide +kernel
theorem dL_wins_9 : decode bL_wins 9 = .ok (.lastore, 1) := by decide +kernel
theorem dL_wins_10 : decode bL_wins 10 = .ok (.goto 15, 3) := by decide +kernel
theorem dL_wins_13 : decode bL_wins 13 = .ok (.astore 4, 2) := by decide +kernel
theorem dL_wins_15 : decode bL_wins 15 = .ok (.iconst 1, 1) := by decide +kernel
theorem dL_wins_16 : decode bL_wins 16 = .ok (.ireturn, 1) := by decide +kernel
theorem dL_wins_17 : decode bL_wins 17 = .ok (.astore 4, 2) := by decide +kernel
theorem dL_wins_19 : decode bL_wins 19 = .ok (.iconst 2, 1) := by decide +kernel
theorem dL_wins_20 : decode bL_wins 20 = .ok (.ireturn, 1) := by decide +kernel
theorem dL_wins_21 : decode bL_wins 21 = .ok (.astore 4, 2) := by decide +kernel
theorem dL_wins_23 : decode bL_wins 23 = .ok (.iconst 3, 1) := by decide +kernel
theorem dL_wins_24 : decode bL_wins 24 = .ok (.ireturn, 1) := by decide +kernel
theorem dL_wins_25 : decode bL_wins 25 = .ok (.iconst 0, 1) := by decide +kernel
theorem dL_wins_26 : decode bL_wins 26 = .ok (.ireturn, 1) := by decide +kernel
abbrev bL_outs : ByteArray := method_17_code
def yL_outs : MethodName := ⟨"HandTablesLaw", "outs", "(LHandTables;I[J)I"⟩
theorem dL_outs_0 : decode bL_outs 0 = .ok (.aload_n 2, 1) := by decide +kernel
theorem dL_outs_1 : decode bL_outs 1 = .ok (.iconst 0, 1) := by decide +kernel
theorem dL_outs_2 : decode bL_outs 2 = .ok (.aload_n 0, 1) := by decide +kernel
theorem dL_outs_3 : decode bL_outs 3 = .ok (.iload_n 1, 1) := by decide +kernel
theorem dL_outs_4 : decode bL_outs 4 = .ok (.invokevirtual 65, 3) := by decide +kernel
theorem dL_outs_7 : decode bL_outs 7 = .ok (.lastore, 1) := by decide +kernel
theorem dL_outs_8 : decode bL_outs 8 = .ok (.goto 9, 3) := by decide +kernel
theorem dL_outs_11 : decode bL_outs 11 = .ok (.astore_n 3, 1) := by decide +kernel
theorem dL_outs_12 : decode bL_outs 12 = .ok (.iconst 1, 1) := by decide +kernel
theorem dL_outs_13 : decode bL_outs 13 = .ok (.ireturn, 1) := by decide +kernel
theorem dL_outs_14 : decode bL_outs 14 = .ok (.astore_n 3, 1) := by decide +kernel
theorem dL_outs_15 : decode bL_outs 15 = .ok (.iconst 2, 1) := by decide +kernel
theorem dL_outs_16 : decode bL_outs 16 = .ok (.ireturn, 1) := by decide +kernel
theorem dL_outs_17 : decode bL_outs 17 = .ok (.iconst 0, 1) := by decide +kernel
theorem dL_outs_18 : decode bL_outs 18 = .ok (.ireturn, 1) := by decide +kernel
abbrev bL_share : ByteArray := method_18_code
def yL_share : MethodName := ⟨"HandTablesLaw", "share", "(LHandTables;II[J)I"⟩
theorem dL_share_0 : decode bL_share 0 = .ok (.aload_n 3, 1) := by decide +kernel
theorem dL_share_1 : decode bL_share 1 = .ok (.iconst 0, 1) := by decide +kernel
theorem dL_share_2 : decode bL_share 2 = .ok (.aload_n 0, 1) := by decide +kernel
theorem dL_share_3 : decode bL_share 3 = .ok (.iload_n 1, 1) := by decide +kernel
theorem dL_share_4 : decode bL_share 4 = .ok (.iload_n 2, 1) := by decide +kernel
theorem dL_share_5 : decode bL_share 5 = .ok (.invokevirtual 68, 3) := by decide +kernel
theorem dL_share_8 : decode bL_share 8 = .ok (.i2l, 1) := by decide +kernel
theorem dL_share_9 : decode bL_share 9 = .ok (.lastore, 1) := by decide +kernel
theorem dL_share_10 : decode bL_share 10 = .ok (.goto 15, 3) := by decide +kernel
theorem dL_share_13 : decode bL_share 13 = .ok (.astore 4, 2) := by decide +kernel
theorem dL_share_15 : decode bL_share 15 = .ok (.iconst 1, 1) := by decide +kernel
theorem dL_share_16 : decode bL_share 16 = .ok (.ireturn, 1) := by decide +kernel
theorem dL_share_17 : decode bL_share 17 = .ok (.astore 4, 2) := by decide +kernel
theorem dL_share_19 : decode bL_share 19 = .ok (.iconst 2, 1) := by decide +kernel
theorem dL_share_20 : decode bL_share 20 = .ok (.ireturn, 1) := by decide +kernel
theorem dL_share_21 : decode bL_share 21 = .ok (.astore 4, 2) := by decide +kernel
theorem dL_share_23 : decode bL_share 23 = .ok (.iconst 3, 1) := by decide +kernel
theorem dL_share_24 : decode bL_share 24 = .ok (.ireturn, 1) := by decide +kernel
theorem dL_share_25 : decode bL_share 25 = .ok (.iconst 0, 1) := by decide +kernel
theorem dL_share_26 : decode bL_share 26 = .ok (.ireturn, 1) := by decide +kernel
abbrev bM_init : ByteArray := prog_3_method_1_code
def yM_init : MethodName := ⟨"HandTablesModel", "<init>", "()V"⟩
theorem dM_init_0 : decode bM_init 0 = .ok (.aload_n 0, 1) := by decide +kernel
theorem dM_init_1 : decode bM_init 1 = .ok (.invokespecial 1, 3) := by decide +kernel
theorem dM_init_4 : decode bM_init 4 = .ok (.aload_n 0, 1) := by decide +kernel
theorem dM_init_5 : decode bM_init 5 = .ok (.sipush 7462, 3) := by decide +kernel
theorem dM_init_8 : decode bM_init 8 = .ok (.newarray .int, 2) := by decide +kernel
theorem dM_init_10 : decode bM_init 10 = .ok (.putfield 7, 3) := by decide +kernel
theorem dM_init_13 : decode bM_init 13 = .ok (.aload_n 0, 1) := by decide +kernel
theorem dM_init_14 : decode bM_init 14 = .ok (.iconst 5, 1) := by decide +kernel
theorem dM_init_15 : decode bM_init 15 = .ok (.newarray .int, 2) := by decide +kernel
theorem dM_init_17 : decode bM_init 17 = .ok (.putfield 13, 3) := by decide +kernel
theorem dM_init_20 : decode bM_init 20 = .ok (.aload_n 0, 1) := by decide +kernel
theorem dM_init_21 : decode bM_init 21 = .ok (.bipush 13, 2) := by decide +kernel
theorem dM_init_23 : decode bM_init 23 = .ok (.newarray .int, 2) := by decide +kernel
theorem dM_init_25 : decode bM_init 25 = .ok (.putfield 16, 3) := by decide +kernel
theorem dM_init_28 : decode bM_init 28 = .ok (.aload_n 0, 1) := by decide +kernel
theorem dM_init_29 : decode bM_init 29 = .ok (.bipush 7, 2) := by decide +kernel
theorem dM_init_31 : decode bM_init 31 = .ok (.newarray .int, 2) := by decide +kernel
theorem dM_init_33 : decode bM_init 33 = .ok (.putfield 19, 3) := by decide +kernel
theorem dM_init_36 : decode bM_init 36 = .ok (.aload_n 0, 1) := by decide +kernel
theorem dM_init_37 : decode bM_init 37 = .ok (.bipush 12, 2) := by decide +kernel
theorem dM_init_39 : decode bM_init 39 = .ok (.newarray .int, 2) := by decide +kernel
theorem dM_init_41 : decode bM_init 41 = .ok (.putfield 22, 3) := by decide +kernel
theorem dM_init_44 : decode bM_init 44 = .ok (.aload_n 0, 1) := by decide +kernel
theorem dM_init_45 : decode bM_init 45 = .ok (.iconst 5, 1) := by decide +kernel
theorem dM_init_46 : decode bM_init 46 = .ok (.newarray .int, 2) := by decide +kernel
theorem dM_init_48 : decode bM_init 48 = .ok (.putfield 25, 3) := by decide +kernel
theorem dM_init_51 : decode bM_init 51 = .ok (.aload_n 0, 1) := by decide +kernel
theorem dM_init_52 : decode bM_init 52 = .ok (.bipush 52, 2) := by decide +kernel
theorem dM_init_54 : decode bM_init 54 = .ok (.newarray .int, 2) := by decide +kernel
theorem dM_init_56 : decode bM_init 56 = .ok (.putfield 28, 3) := by decide +kernel
theorem dM_init_59 : decode bM_init 59 = .ok (.aload_n 0, 1) := by decide +kernel
theorem dM_init_60 : decode bM_init 60 = .ok (.bipush 6, 2) := by decide +kernel
theorem dM_init_62 : decode bM_init 62 = .ok (.newarray .int, 2) := by decide +kernel
theorem dM_init_64 : decode bM_init 64 = .ok (.putfield 31, 3) := by decide +kernel
theorem dM_init_67 : decode bM_init 67 = .ok (.aload_n 0, 1) := by decide +kernel
theorem dM_init_68 : decode bM_init 68 = .ok (.bipush 6, 2) := by decide +kernel
theorem dM_init_70 : decode bM_init 70 = .ok (.newarray .int, 2) := by decide +kernel
theorem dM_init_72 : decode bM_init 72 = .ok (.putfield 34, 3) := by decide +kernel
theorem dM_init_75 : decode bM_init 75 = .ok (.aload_n 0, 1) := by decide +kernel
theorem dM_init_76 : decode bM_init 76 = .ok (.bipush 52, 2) := by decide +kernel
theorem dM_init_78 : decode bM_init 78 = .ok (.newarray .int, 2) := by decide +kernel
theorem dM_init_80 : decode bM_init 80 = .ok (.putfield 37, 3) := by decide +kernel
theorem dM_init_83 : decode bM_init 83 = .ok (.iconst 0, 1) := by decide +kernel
theorem dM_init_84 : decode bM_init 84 = .ok (.istore_n 1, 1) := by decide +kernel
theorem dM_init_85 : decode bM_init 85 = .ok (.iload_n 1, 1) := by decide +kernel
theorem dM_init_86 : decode bM_init 86 = .ok (.bipush 13, 2) := by decide +kernel
theorem dM_init_88 : decode bM_init 88 = .ok (.if_icmp .ge 128, 3) := by decide +kernel
theorem dM_init_91 : decode bM_init 91 = .ok (.iload_n 1, 1) := by decide +kernel
theorem dM_init_92 : decode bM_init 92 = .ok (.istore_n 2, 1) := by decide +kernel
theorem dM_init_93 : decode bM_init 93 = .ok (.iload_n 2, 1) := by decide +kernel
theorem dM_init_94 : decode bM_init 94 = .ok (.bipush 13, 2) := by decide +kernel
theorem dM_init_96 : decode bM_init 96 = .ok (.if_icmp .ge 114, 3) := by decide +kernel
theorem dM_init_99 : decode bM_init 99 = .ok (.iload_n 2, 1) := by decide +kernel
theorem dM_init_100 : decode bM_init 100 = .ok (.istore_n 3, 1) := by decide +kernel
theorem dM_init_101 : decode bM_init 101 = .ok (.iload_n 3, 1) := by decide +kernel
theorem dM_init_102 : decode bM_init 102 = .ok (.bipush 13, 2) := by decide +kernel
theorem dM_init_104 : decode bM_init 104 = .ok (.if_icmp .ge 100, 3) := by decide +kernel
theorem dM_init_107 : decode bM_init 107 = .ok (.iload_n 3, 1) := by decide +kernel
theorem dM_init_108 : decode bM_init 108 = .ok (.istore 4, 2) := by decide +kernel
theorem dM_init_110 : decode bM_init 110 = .ok (.iload 4, 2) := by decide +kernel
theorem dM_init_112 : decode bM_init 112 = .ok (.bipush 13, 2) := by decide +kernel
theorem dM_init_114 : decode bM_init 114 = .ok (.if_icmp .ge 84, 3) := by decide +kernel
theorem dM_init_117 : decode bM_init 117 = .ok (.iload 4, 2) := by decide +kernel
theorem dM_init_119 : decode bM_init 119 = .ok (.istore 5, 2) := by decide +kernel
theorem dM_init_121 : decode bM_init 121 = .ok (.iload 5, 2) := by decide +kernel
theorem dM_init_123 : decode bM_init 123 = .ok (.bipush 13, 2) := by decide +kernel
theorem dM_init_125 : decode bM_init 125 = .ok (.if_icmp .ge 67, 3) := by decide +kernel
theorem dM_init_128 : decode bM_init 128 = .ok (.aload_n 0, 1) := by decide +kernel
theorem dM_init_129 : decode bM_init 129 = .ok (.iload_n 1, 1) := by decide +kernel
theorem dM_init_130 : decode bM_init 130 = .ok (.iload_n 2, 1) := by decide +kernel
theorem dM_init_131 : decode bM_init 131 = .ok (.iload_n 3, 1) := by decide +kernel
theorem dM_init_132 : decode bM_init 132 = .ok (.iload 4, 2) := by decide +kernel
theorem dM_init_134 : decode bM_init 134 = .ok (.iload 5, 2) := by decide +kernel
theorem dM_init_136 : decode bM_init 136 = .ok (.invokevirtual 40, 3) := by decide +kernel
theorem dM_init_139 : decode bM_init 139 = .ok (.iload_n 1, 1) := by decide +kernel
theorem dM_init_140 : decode bM_init 140 = .ok (.iload 5, 2) := by decide +kernel
theorem dM_init_142 : decode bM_init 142 = .ok (.if_icmp .ge 12, 3) := by decide +kernel
theorem dM_init_145 : decode bM_init 145 = .ok (.aload_n 0, 1) := by decide +kernel
theorem dM_init_146 : decode bM_init 146 = .ok (.aload_n 0, 1) := by decide +kernel
theorem dM_init_147 : decode bM_init 147 = .ok (.iconst 0, 1) := by decide +kernel
theorem dM_init_148 : decode bM_init 148 = .ok (.invokevirtual 44, 3) := by decide +kernel
theorem dM_init_151 : decode bM_init 151 = .ok (.invokevirtual 48, 3) := by decide +kernel
theorem dM_init_154 : decode bM_init 154 = .ok (.iload_n 1, 1) := by decide +kernel
theorem dM_init_155 : decode bM_init 155 = .ok (.iload_n 2, 1) := by decide +kernel
theorem dM_init_156 : decode bM_init 156 = .ok (.if_icmp .ge 30, 3) := by decide +kernel
theorem dM_init_159 : decode bM_init 159 = .ok (.iload_n 2, 1) := by decide +kernel
theorem dM_init_160 : decode bM_init 160 = .ok (.iload_n 3, 1) := by decide +kernel
theorem dM_init_161 : decode bM_init 161 = .ok (.if_icmp .ge 25, 3) := by decide +kernel
theorem dM_init_164 : decode bM_init 164 = .ok (.iload_n 3, 1) := by decide +kernel
theorem dM_init_165 : decode bM_init 165 = .ok (.iload 4, 2) := by decide +kernel
theorem dM_init_167 : decode bM_init 167 = .ok (.if_icmp .ge 19, 3) := by decide +kernel
theorem dM_init_170 : decode bM_init 170 = .ok (.iload 4, 2) := by decide +kernel
theorem dM_init_172 : decode bM_init 172 = .ok (.iload 5, 2) := by decide +kernel
theorem dM_init_174 : decode bM_init 174 = .ok (.if_icmp .ge 12, 3) := by decide +kernel
theorem dM_init_177 : decode bM_init 177 = .ok (.aload_n 0, 1) := by decide +kernel
theorem dM_init_178 : decode bM_init 178 = .ok (.aload_n 0, 1) := by decide +kernel
theorem dM_init_179 : decode bM_init 179 = .ok (.iconst 1, 1) := by decide +kernel
theorem dM_init_180 : decode bM_init 180 = .ok (.invokevirtual 44, 3) := by decide +kernel
theorem dM_init_183 : decode bM_init 183 = .ok (.invokevirtual 48, 3) := by decide +kernel
theorem dM_init_186 : decode bM_init 186 = .ok (.iinc 5 1, 3) := by decide +kernel
theorem dM_init_189 : decode bM_init 189 = .ok (.goto (-68), 3) := by decide +kernel
theorem dM_init_192 : decode bM_init 192 = .ok (.iinc 4 1, 3) := by decide +kernel
theorem dM_init_195 : decode bM_init 195 = .ok (.goto (-85), 3) := by decide +kernel
theorem dM_init_198 : decode bM_init 198 = .ok (.iinc 3 1, 3) := by decide +kernel
theorem dM_init_201 : decode bM_init 201 = .ok (.goto (-100), 3) := by decide +kernel
theorem dM_init_204 : decode bM_init 204 = .ok (.iinc 2 1, 3) := by decide +kernel
theorem dM_init_207 : decode bM_init 207 = .ok (.goto (-114), 3) := by decide +kernel
theorem dM_init_210 : decode bM_init 210 = .ok (.iinc 1 1, 3) := by decide +kernel
theorem dM_init_213 : decode bM_init 213 = .ok (.goto (-128), 3) := by decide +kernel
theorem dM_init_216 : decode bM_init 216 = .ok (.aload_n 0, 1) := by decide +kernel
theorem dM_init_217 : decode bM_init 217 = .ok (.invokevirtual 52, 3) := by decide +kernel
theorem dM_init_220 : decode bM_init 220 = .ok (.iconst 0, 1) := by decide +kernel
theorem dM_init_221 : decode bM_init 221 = .ok (.istore_n 1, 1) := by decide +kernel
theorem dM_init_222 : decode bM_init 222 = .ok (.iload_n 1, 1) := by decide +kernel
theorem dM_init_223 : decode bM_init 223 = .ok (.bipush 12, 2) := by decide +kernel
theorem dM_init_225 : decode bM_init 225 = .ok (.if_icmp .ge 16, 3) := by decide +kernel
theorem dM_init_228 : decode bM_init 228 = .ok (.aload_n 0, 1) := by decide +kernel
theorem dM_init_229 : decode bM_init 229 = .ok (.getfield 22, 3) := by decide +kernel
theorem dM_init_232 : decode bM_init 232 = .ok (.iload_n 1, 1) := by decide +kernel
theorem dM_init_233 : decode bM_init 233 = .ok (.iconst (-1), 1) := by decide +kernel
theorem dM_init_234 : decode bM_init 234 = .ok (.iastore, 1) := by decide +kernel
theorem dM_init_235 : decode bM_init 235 = .ok (.iinc 1 1, 3) := by decide +kernel
theorem dM_init_238 : decode bM_init 238 = .ok (.goto (-16), 3) := by decide +kernel
theorem dM_init_241 : decode bM_init 241 = .ok (.aload_n 0, 1) := by decide +kernel
theorem dM_init_242 : decode bM_init 242 = .ok (.invokevirtual 55, 3) := by decide +kernel
theorem dM_init_245 : decode bM_init 245 = .ok (.return_, 1) := by decide +kernel
abbrev bM_setRanks : ByteArray := prog_3_method_3_code
def yM_setRanks : MethodName := ⟨"HandTablesModel", "setRanks", "(IIIII)V"⟩
theorem dM_setRanks_0 : decode bM_setRanks 0 = .ok (.aload_n 0, 1) := by decide +kernel
theorem dM_setRanks_1 : decode bM_setRanks 1 = .ok (.getfield 13, 3) := by decide +kernel
theorem dM_setRanks_4 : decode bM_setRanks 4 = .ok (.iconst 0, 1) := by decide +kernel
theorem dM_setRanks_5 : decode bM_setRanks 5 = .ok (.iload_n 1, 1) := by decide +kernel
theorem dM_setRanks_6 : decode bM_setRanks 6 = .ok (.iastore, 1) := by decide +kernel
theorem dM_setRanks_7 : decode bM_setRanks 7 = .ok (.aload_n 0, 1) := by decide +kernel
theorem dM_setRanks_8 : decode bM_setRanks 8 = .ok (.getfield 13, 3) := by decide +kernel
theorem dM_setRanks_11 : decode bM_setRanks 11 = .ok (.iconst 1, 1) := by decide +kernel
theorem dM_setRanks_12 : decode bM_setRanks 12 = .ok (.iload_n 2, 1) := by decide +kernel
theorem dM_setRanks_13 : decode bM_setRanks 13 = .ok (.iastore, 1) := by decide +kernel
theorem dM_setRanks_14 : decode bM_setRanks 14 = .ok (.aload_n 0, 1) := by decide +kernel
theorem dM_setRanks_15 : decode bM_setRanks 15 = .ok (.getfield 13, 3) := by decide +kernel
theorem dM_setRanks_18 : decode bM_setRanks 18 = .ok (.iconst 2, 1) := by decide +kernel
theorem dM_setRanks_19 : decode bM_setRanks 19 = .ok (.iload_n 3, 1) := by decide +kernel
theorem dM_setRanks_20 : decode bM_setRanks 20 = .ok (.iastore, 1) := by decide +kernel
theorem dM_setRanks_21 : decode bM_setRanks 21 = .ok (.aload_n 0, 1) := by decide +kernel
theorem dM_setRanks_22 : decode bM_setRanks 22 = .ok (.getfield 13, 3) := by decide +kernel
theorem dM_setRanks_25 : decode bM_setRanks 25 = .ok (.iconst 3, 1) := by decide +kernel
theorem dM_setRanks_26 : decode bM_setRanks 26 = .ok (.iload 4, 2) := by decide +kernel
theorem dM_setRanks_28 : decode bM_setRanks 28 = .ok (.iastore, 1) := by decide +kernel
theorem dM_setRanks_29 : decode bM_setRanks 29 = .ok (.aload_n 0, 1) := by decide +kernel
theorem dM_setRanks_30 : decode bM_setRanks 30 = .ok (.getfield 13, 3) := by decide +kernel
theorem dM_setRanks_33 : decode bM_setRanks 33 = .ok (.iconst 4, 1) := by decide +kernel
theorem dM_setRanks_34 : decode bM_setRanks 34 = .ok (.iload 5, 2) := by decide +kernel
theorem dM_setRanks_36 : decode bM_setRanks 36 = .ok (.iastore, 1) := by decide +kernel
theorem dM_setRanks_37 : decode bM_setRanks 37 = .ok (.return_, 1) := by decide +kernel
abbrev bM_keyOf : ByteArray := prog_3_method_8_code
def yM_keyOf : MethodName := ⟨"HandTablesModel", "keyOf", "(Z)I"⟩
theorem dM_keyOf_0 : decode bM_keyOf 0 = .ok (.iconst 0, 1) := by decide +kernel
theorem dM_keyOf_1 : decode bM_keyOf 1 = .ok (.istore_n 2, 1) := by decide +kernel
theorem dM_keyOf_2 : decode bM_keyOf 2 = .ok (.iload_n 2, 1) := by decide +kernel
theorem dM_keyOf_3 : decode bM_keyOf 3 = .ok (.bipush 13, 2) := by decide +kernel
theorem dM_keyOf_5 : decode bM_keyOf 5 = .ok (.if_icmp .ge 16, 3) := by decide +kernel
theorem dM_keyOf_8 : decode bM_keyOf 8 = .ok (.aload_n 0, 1) := by decide +kernel
theorem dM_keyOf_9 : decode bM_keyOf 9 = .ok (.getfield 16, 3) := by decide +kernel
theorem dM_keyOf_12 : decode bM_keyOf 12 = .ok (.iload_n 2, 1) := by decide +kernel
theorem dM_keyOf_13 : decode bM_keyOf 13 = .ok (.iconst 0, 1) := by decide +kernel
theorem dM_keyOf_14 : decode bM_keyOf 14 = .ok (.iastore, 1) := by decide +kernel
theorem dM_keyOf_15 : decode bM_keyOf 15 = .ok (.iinc 2 1, 3) := by decide +kernel
theorem dM_keyOf_18 : decode bM_keyOf 18 = .ok (.goto (-16), 3) := by decide +kernel
theorem dM_keyOf_21 : decode bM_keyOf 21 = .ok (.iconst 0, 1) := by decide +kernel
theorem dM_keyOf_22 : decode bM_keyOf 22 = .ok (.istore_n 2, 1) := by decide +kernel
theorem dM_keyOf_23 : decode bM_keyOf 23 = .ok (.iload_n 2, 1) := by decide +kernel
theorem dM_keyOf_24 : decode bM_keyOf 24 = .ok (.iconst 5, 1) := by decide +kernel
theorem dM_keyOf_25 : decode bM_keyOf 25 = .ok (.if_icmp .ge 24, 3) := by decide +kernel
theorem dM_keyOf_28 : decode bM_keyOf 28 = .ok (.aload_n 0, 1) := by decide +kernel
theorem dM_keyOf_29 : decode bM_keyOf 29 = .ok (.getfield 16, 3) := by decide +kernel
theorem dM_keyOf_32 : decode bM_keyOf 32 = .ok (.aload_n 0, 1) := by decide +kernel
theorem dM_keyOf_33 : decode bM_keyOf 33 = .ok (.getfield 13, 3) := by decide +kernel
theorem dM_keyOf_36 : decode bM_keyOf 36 = .ok (.iload_n 2, 1) := by decide +kernel
theorem dM_keyOf_37 : decode bM_keyOf 37 = .ok (.iaload, 1) := by decide +kernel
theorem dM_keyOf_38 : decode bM_keyOf 38 = .ok (.dup2, 1) := by decide +kernel
theorem dM_keyOf_39 : decode bM_keyOf 39 = .ok (.iaload, 1) := by decide +kernel
theorem dM_keyOf_40 : decode bM_keyOf 40 = .ok (.iconst 1, 1) := by decide +kernel
theorem dM_keyOf_41 : decode bM_keyOf 41 = .ok (.iadd, 1) := by decide +kernel
theorem dM_keyOf_42 : decode bM_keyOf 42 = .ok (.iastore, 1) := by decide +kernel
theorem dM_keyOf_43 : decode bM_keyOf 43 = .ok (.iinc 2 1, 3) := by decide +kernel
theorem dM_keyOf_46 : decode bM_keyOf 46 = .ok (.goto (-23), 3) := by decide +kernel
theorem dM_keyOf_49 : decode bM_keyOf 49 = .ok (.aload_n 0, 1) := by decide +kernel
theorem dM_keyOf_50 : decode bM_keyOf 50 = .ok (.invokevirtual 65, 3) := by decide +kernel
theorem dM_keyOf_53 : decode bM_keyOf 53 = .ok (.istore_n 2, 1) := by decide +kernel
theorem dM_keyOf_54 : decode bM_keyOf 54 = .ok (.iconst 0, 1) := by decide +kernel
theorem dM_keyOf_55 : decode bM_keyOf 55 = .ok (.istore_n 3, 1) := by decide +kernel
theorem dM_keyOf_56 : decode bM_keyOf 56 = .ok (.iload_n 2, 1) := by decide +kernel
theorem dM_keyOf_57 : decode bM_keyOf 57 = .ok (.ifCond .lt 17, 3) := by decide +kernel
theorem dM_keyOf_60 : decode bM_keyOf 60 = .ok (.iload_n 1, 1) := by decide +kernel
theorem dM_keyOf_61 : decode bM_keyOf 61 = .ok (.ifCond .eq 8, 3) := by decide +kernel
theorem dM_keyOf_64 : decode bM_keyOf 64 = .ok (.bipush 8, 2) := by decide +kernel
theorem dM_keyOf_66 : decode bM_keyOf 66 = .ok (.goto 4, 3) := by decide +kernel
theorem dM_keyOf_69 : decode bM_keyOf 69 = .ok (.iconst 4, 1) := by decide +kernel
theorem dM_keyOf_70 : decode bM_keyOf 70 = .ok (.istore_n 3, 1) := by decide +kernel
theorem dM_keyOf_71 : decode bM_keyOf 71 = .ok (.goto 61, 3) := by decide +kernel
theorem dM_keyOf_74 : decode bM_keyOf 74 = .ok (.aload_n 0, 1) := by decide +kernel
theorem dM_keyOf_75 : decode bM_keyOf 75 = .ok (.iconst 4, 1) := by decide +kernel
theorem dM_keyOf_76 : decode bM_keyOf 76 = .ok (.invokevirtual 69, 3) := by decide +kernel
theorem dM_keyOf_79 : decode bM_keyOf 79 = .ok (.iconst 1, 1) := by decide +kernel
theorem dM_keyOf_80 : decode bM_keyOf 80 = .ok (.if_icmp .ne 9, 3) := by decide +kernel
theorem dM_keyOf_83 : decode bM_keyOf 83 = .ok (.bipush 7, 2) := by decide +kernel
theorem dM_keyOf_85 : decode bM_keyOf 85 = .ok (.istore_n 3, 1) := by decide +kernel
theorem dM_keyOf_86 : decode bM_keyOf 86 = .ok (.goto 46, 3) := by decide +kernel
theorem dM_keyOf_89 : decode bM_keyOf 89 = .ok (.aload_n 0, 1) := by decide +kernel
theorem dM_keyOf_90 : decode bM_keyOf 90 = .ok (.iconst 3, 1) := by decide +kernel
theorem dM_keyOf_91 : decode bM_keyOf 91 = .ok (.invokevirtual 69, 3) := by decide +kernel
theorem dM_keyOf_94 : decode bM_keyOf 94 = .ok (.iconst 1, 1) := by decide +kernel
theorem dM_keyOf_95 : decode bM_keyOf 95 = .ok (.if_icmp .ne 22, 3) := by decide +kernel
theorem dM_keyOf_98 : decode bM_keyOf 98 = .ok (.aload_n 0, 1) := by decide +kernel
theorem dM_keyOf_99 : decode bM_keyOf 99 = .ok (.iconst 2, 1) := by decide +kernel
theorem dM_keyOf_100 : decode bM_keyOf 100 = .ok (.invokevirtual 69, 3) := by decide +kernel
theorem dM_keyOf_103 : decode bM_keyOf 103 = .ok (.iconst 1, 1) := by decide +kernel
theorem dM_keyOf_104 : decode bM_keyOf 104 = .ok (.if_icmp .ne 8, 3) := by decide +kernel
theorem dM_keyOf_107 : decode bM_keyOf 107 = .ok (.bipush 6, 2) := by decide +kernel
theorem dM_keyOf_109 : decode bM_keyOf 109 = .ok (.goto 4, 3) := by decide +kernel
theorem dM_keyOf_112 : decode bM_keyOf 112 = .ok (.iconst 3, 1) := by decide +kernel
theorem dM_keyOf_113 : decode bM_keyOf 113 = .ok (.istore_n 3, 1) := by decide +kernel
theorem dM_keyOf_114 : decode bM_keyOf 114 = .ok (.goto 18, 3) := by decide +kernel
theorem dM_keyOf_117 : decode bM_keyOf 117 = .ok (.iload_n 1, 1) := by decide +kernel
theorem dM_keyOf_118 : decode bM_keyOf 118 = .ok (.ifCond .eq 8, 3) := by decide +kernel
theorem dM_keyOf_121 : decode bM_keyOf 121 = .ok (.iconst 5, 1) := by decide +kernel
theorem dM_keyOf_122 : decode bM_keyOf 122 = .ok (.istore_n 3, 1) := by decide +kernel
theorem dM_keyOf_123 : decode bM_keyOf 123 = .ok (.goto 9, 3) := by decide +kernel
theorem dM_keyOf_126 : decode bM_keyOf 126 = .ok (.aload_n 0, 1) := by decide +kernel
theorem dM_keyOf_127 : decode bM_keyOf 127 = .ok (.iconst 2, 1) := by decide +kernel
theorem dM_keyOf_128 : decode bM_keyOf 128 = .ok (.invokevirtual 69, 3) := by decide +kernel
theorem dM_keyOf_131 : decode bM_keyOf 131 = .ok (.istore_n 3, 1) := by decide +kernel
theorem dM_keyOf_132 : decode bM_keyOf 132 = .ok (.iconst 0, 1) := by decide +kernel
theorem dM_keyOf_133 : decode bM_keyOf 133 = .ok (.istore 4, 2) := by decide +kernel
theorem dM_keyOf_135 : decode bM_keyOf 135 = .ok (.sipush 28561, 3) := by decide +kernel
theorem dM_keyOf_138 : decode bM_keyOf 138 = .ok (.istore 5, 2) := by decide +kernel
theorem dM_keyOf_140 : decode bM_keyOf 140 = .ok (.iload_n 2, 1) := by decide +kernel
theorem dM_keyOf_141 : decode bM_keyOf 141 = .ok (.ifCond .lt 13, 3) := by decide +kernel
theorem dM_keyOf_144 : decode bM_keyOf 144 = .ok (.iload_n 3, 1) := by decide +kernel
theorem dM_keyOf_145 : decode bM_keyOf 145 = .ok (.ldc 73, 2) := by decide +kernel
theorem dM_keyOf_147 : decode bM_keyOf 147 = .ok (.imul, 1) := by decide +kernel
theorem dM_keyOf_148 : decode bM_keyOf 148 = .ok (.iload_n 2, 1) := by decide +kernel
theorem dM_keyOf_149 : decode bM_keyOf 149 = .ok (.iload 5, 2) := by decide +kernel
theorem dM_keyOf_151 : decode bM_keyOf 151 = .ok (.imul, 1) := by decide +kernel
theorem dM_keyOf_152 : decode bM_keyOf 152 = .ok (.iadd, 1) := by decide +kernel
theorem dM_keyOf_153 : decode bM_keyOf 153 = .ok (.ireturn, 1) := by decide +kernel
theorem dM_keyOf_154 : decode bM_keyOf 154 = .ok (.iconst 4, 1) := by decide +kernel
theorem dM_keyOf_155 : decode bM_keyOf 155 = .ok (.istore 6, 2) := by decide +kernel
theorem dM_keyOf_157 : decode bM_keyOf 157 = .ok (.iload 6, 2) := by decide +kernel
theorem dM_keyOf_159 : decode bM_keyOf 159 = .ok (.ifCond .le 53, 3) := by decide +kernel
theorem dM_keyOf_162 : decode bM_keyOf 162 = .ok (.bipush 12, 2) := by decide +kernel
theorem dM_keyOf_164 : decode bM_keyOf 164 = .ok (.istore 7, 2) := by decide +kernel
theorem dM_keyOf_166 : decode bM_keyOf 166 = .ok (.iload 7, 2) := by decide +kernel
theorem dM_keyOf_168 : decode bM_keyOf 168 = .ok (.ifCond .lt 38, 3) := by decide +kernel
theorem dM_keyOf_171 : decode bM_keyOf 171 = .ok (.aload_n 0, 1) := by decide +kernel
theorem dM_keyOf_172 : decode bM_keyOf 172 = .ok (.getfield 16, 3) := by decide +kernel
theorem dM_keyOf_175 : decode bM_keyOf 175 = .ok (.iload 7, 2) := by decide +kernel
theorem dM_keyOf_177 : decode bM_keyOf 177 = .ok (.iaload, 1) := by decide +kernel
theorem dM_keyOf_178 : decode bM_keyOf 178 = .ok (.iload 6, 2) := by decide +kernel
theorem dM_keyOf_180 : decode bM_keyOf 180 = .ok (.if_icmp .ne 20, 3) := by decide +kernel
theorem dM_keyOf_183 : decode bM_keyOf 183 = .ok (.iload 4, 2) := by decide +kernel
theorem dM_keyOf_185 : decode bM_keyOf 185 = .ok (.iload 7, 2) := by decide +kernel
theorem dM_keyOf_187 : decode bM_keyOf 187 = .ok (.iload 5, 2) := by decide +kernel
theorem dM_keyOf_189 : decode bM_keyOf 189 = .ok (.imul, 1) := by decide +kernel
theorem dM_keyOf_190 : decode bM_keyOf 190 = .ok (.iadd, 1) := by decide +kernel
theorem dM_keyOf_191 : decode bM_keyOf 191 = .ok (.istore 4, 2) := by decide +kernel
theorem dM_keyOf_193 : decode bM_keyOf 193 = .ok (.iload 5, 2) := by decide +kernel
theorem dM_keyOf_195 : decode bM_keyOf 195 = .ok (.bipush 13, 2) := by decide +kernel
theorem dM_keyOf_197 : decode bM_keyOf 197 = .ok (.idiv, 1) := by decide +kernel
theorem dM_keyOf_198 : decode bM_keyOf 198 = .ok (.istore 5, 2) := by decide +kernel
theorem dM_keyOf_200 : decode bM_keyOf 200 = .ok (.iinc 7 (-1), 3) := by decide +kernel
theorem dM_keyOf_203 : decode bM_keyOf 203 = .ok (.goto (-37), 3) := by decide +kernel
theorem dM_keyOf_206 : decode bM_keyOf 206 = .ok (.iinc 6 (-1), 3) := by decide +kernel
theorem dM_keyOf_209 : decode bM_keyOf 209 = .ok (.goto (-52), 3) := by decide +kernel
theorem dM_keyOf_212 : decode bM_keyOf 212 = .ok (.iload_n 3, 1) := by decide +kernel
theorem dM_keyOf_213 : decode bM_keyOf 213 = .ok (.ldc 73, 2) := by decide +kernel
theorem dM_keyOf_215 : decode bM_keyOf 215 = .ok (.imul, 1) := by decide +kernel
theorem dM_keyOf_216 : decode bM_keyOf 216 = .ok (.iload 4, 2) := by decide +kernel
theorem dM_keyOf_218 : decode bM_keyOf 218 = .ok (.iadd, 1) := by decide +kernel
theorem dM_keyOf_219 : decode bM_keyOf 219 = .ok (.ireturn, 1) := by decide +kernel
abbrev bM_straight : ByteArray := prog_3_method_6_code
def yM_straight : MethodName := ⟨"HandTablesModel", "straight", "()I"⟩
theorem dM_straight_0 : decode bM_straight 0 = .ok (.bipush 12, 2) := by decide +kernel
theorem dM_straight_2 : decode bM_straight 2 = .ok (.istore_n 1, 1) := by decide +kernel
theorem dM_straight_3 : decode bM_straight 3 = .ok (.iload_n 1, 1) := by decide +kernel
theorem dM_straight_4 : decode bM_straight 4 = .ok (.iconst 3, 1) := by decide +kernel
theorem dM_straight_5 : decode bM_straight 5 = .ok (.if_icmp .lt 67, 3) := by decide +kernel
theorem dM_straight_8 : decode bM_straight 8 = .ok (.iconst 1, 1) := by decide +kernel
theorem dM_straight_9 : decode bM_straight 9 = .ok (.istore_n 2, 1) := by decide +kernel
theorem dM_straight_10 : decode bM_straight 10 = .ok (.iconst 0, 1) := by decide +kernel
theorem dM_straight_11 : decode bM_straight 11 = .ok (.istore_n 3, 1) := by decide +kernel
theorem dM_straight_12 : decode bM_straight 12 = .ok (.iload_n 3, 1) := by decide +kernel
theorem dM_straight_13 : decode bM_straight 13 = .ok (.iconst 5, 1) := by decide +kernel
theorem dM_straight_14 : decode bM_straight 14 = .ok (.if_icmp .ge 46, 3) := by decide +kernel
theorem dM_straight_17 : decode bM_straight 17 = .ok (.iload_n 1, 1) := by decide +kernel
theorem dM_straight_18 : decode bM_straight 18 = .ok (.iload_n 3, 1) := by decide +kernel
theorem dM_straight_19 : decode bM_straight 19 = .ok (.isub, 1) := by decide +kernel
theorem dM_straight_20 : decode bM_straight 20 = .ok (.ifCond .ge 8, 3) := by decide +kernel
theorem dM_straight_23 : decode bM_straight 23 = .ok (.bipush 12, 2) := by decide +kernel
theorem dM_straight_25 : decode bM_straight 25 = .ok (.goto 6, 3) := by decide +kernel
theorem dM_straight_28 : decode bM_straight 28 = .ok (.iload_n 1, 1) := by decide +kernel
theorem dM_straight_29 : decode bM_straight 29 = .ok (.iload_n 3, 1) := by decide +kernel
theorem dM_straight_30 : decode bM_straight 30 = .ok (.isub, 1) := by decide +kernel
theorem dM_straight_31 : decode bM_straight 31 = .ok (.istore 4, 2) := by decide +kernel
theorem dM_straight_33 : decode bM_straight 33 = .ok (.iload_n 2, 1) := by decide +kernel
theorem dM_straight_34 : decode bM_straight 34 = .ok (.ifCond .eq 18, 3) := by decide +kernel
theorem dM_straight_37 : decode bM_straight 37 = .ok (.aload_n 0, 1) := by decide +kernel
theorem dM_straight_38 : decode bM_straight 38 = .ok (.getfield 16, 3) := by decide +kernel
theorem dM_straight_41 : decode bM_straight 41 = .ok (.iload 4, 2) := by decide +kernel
theorem dM_straight_43 : decode bM_straight 43 = .ok (.iaload, 1) := by decide +kernel
theorem dM_straight_44 : decode bM_straight 44 = .ok (.iconst 1, 1) := by decide +kernel
theorem dM_straight_45 : decode bM_straight 45 = .ok (.if_icmp .ne 7, 3) := by decide +kernel
theorem dM_straight_48 : decode bM_straight 48 = .ok (.iconst 1, 1) := by decide +kernel
theorem dM_straight_49 : decode bM_straight 49 = .ok (.goto 4, 3) := by decide +kernel
theorem dM_straight_52 : decode bM_straight 52 = .ok (.iconst 0, 1) := by decide +kernel
theorem dM_straight_53 : decode bM_straight 53 = .ok (.istore_n 2, 1) := by decide +kernel
theorem dM_straight_54 : decode bM_straight 54 = .ok (.iinc 3 1, 3) := by decide +kernel
theorem dM_straight_57 : decode bM_straight 57 = .ok (.goto (-45), 3) := by decide +kernel
theorem dM_straight_60 : decode bM_straight 60 = .ok (.iload_n 2, 1) := by decide +kernel
theorem dM_straight_61 : decode bM_straight 61 = .ok (.ifCond .eq 5, 3) := by decide +kernel
theorem dM_straight_64 : decode bM_straight 64 = .ok (.iload_n 1, 1) := by decide +kernel
theorem dM_straight_65 : decode bM_straight 65 = .ok (.ireturn, 1) := by decide +kernel
theorem dM_straight_66 : decode bM_straight 66 = .ok (.iinc 1 (-1), 3) := by decide +kernel
theorem dM_straight_69 : decode bM_straight 69 = .ok (.goto (-66), 3) := by decide +kernel
theorem dM_straight_72 : decode bM_straight 72 = .ok (.iconst (-1), 1) := by decide +kernel
theorem dM_straight_73 : decode bM_straight 73 = .ok (.ireturn, 1) := by decide +kernel
abbrev bM_with : ByteArray := prog_3_method_7_code
def yM_with : MethodName := ⟨"HandTablesModel", "with", "(I)I"⟩
theorem dM_with_0 : decode bM_with 0 = .ok (.iconst 0, 1) := by decide +kernel
theorem dM_with_1 : decode bM_with 1 = .ok (.istore_n 2, 1) := by decide +kernel
theorem dM_with_2 : decode bM_with 2 = .ok (.iconst 0, 1) := by decide +kernel
theorem dM_with_3 : decode bM_with 3 = .ok (.istore_n 3, 1) := by decide +kernel
theorem dM_with_4 : decode bM_with 4 = .ok (.iload_n 3, 1) := by decide +kernel
theorem dM_with_5 : decode bM_with 5 = .ok (.bipush 13, 2) := by decide +kernel
theorem dM_with_7 : decode bM_with 7 = .ok (.if_icmp .ge 27, 3) := by decide +kernel
theorem dM_with_10 : decode bM_with 10 = .ok (.aload_n 0, 1) := by decide +kernel
theorem dM_with_11 : decode bM_with 11 = .ok (.getfield 16, 3) := by decide +kernel
theorem dM_with_14 : decode bM_with 14 = .ok (.iload_n 3, 1) := by decide +kernel
theorem dM_with_15 : decode bM_with 15 = .ok (.iaload, 1) := by decide +kernel
theorem dM_with_16 : decode bM_with 16 = .ok (.iload_n 1, 1) := by decide +kernel
theorem dM_with_17 : decode bM_with 17 = .ok (.if_icmp .ne 9, 3) := by decide +kernel
theorem dM_with_20 : decode bM_with 20 = .ok (.iload_n 2, 1) := by decide +kernel
theorem dM_with_21 : decode bM_with 21 = .ok (.iconst 1, 1) := by decide +kernel
theorem dM_with_22 : decode bM_with 22 = .ok (.iadd, 1) := by decide +kernel
theorem dM_with_23 : decode bM_with 23 = .ok (.goto 4, 3) := by decide +kernel
theorem dM_with_26 : decode bM_with 26 = .ok (.iload_n 2, 1) := by decide +kernel
theorem dM_with_27 : decode bM_with 27 = .ok (.istore_n 2, 1) := by decide +kernel
theorem dM_with_28 : decode bM_with 28 = .ok (.iinc 3 1, 3) := by decide +kernel
theorem dM_with_31 : decode bM_with 31 = .ok (.goto (-27), 3) := by decide +kernel
theorem dM_with_34 : decode bM_with 34 = .ok (.iload_n 2, 1) := by decide +kernel
theorem dM_with_35 : decode bM_with 35 = .ok (.ireturn, 1) := by decide +kernel
abbrev bM_addKey : ByteArray := prog_3_method_4_code
def yM_addKey : MethodName := ⟨"HandTablesModel", "addKey", "(I)V"⟩
theorem dM_addKey_0 : decode bM_addKey 0 = .ok (.aload_n 0, 1) := by decide +kernel
theorem dM_addKey_1 : decode bM_addKey 1 = .ok (.getfield 7, 3) := by decide +kernel
theorem dM_addKey_4 : decode bM_addKey 4 = .ok (.aload_n 0, 1) := by decide +kernel
theorem dM_addKey_5 : decode bM_addKey 5 = .ok (.getfield 62, 3) := by decide +kernel
theorem dM_addKey_8 : decode bM_addKey 8 = .ok (.iload_n 1, 1) := by decide +kernel
theorem dM_addKey_9 : decode bM_addKey 9 = .ok (.iastore, 1) := by decide +kernel
theorem dM_addKey_10 : decode bM_addKey 10 = .ok (.aload_n 0, 1) := by decide +kernel
theorem dM_addKey_11 : decode bM_addKey 11 = .ok (.dup, 1) := by decide +kernel
theorem dM_addKey_12 : decode bM_addKey 12 = .ok (.getfield 62, 3) := by decide +kernel
theorem dM_addKey_15 : decode bM_addKey 15 = .ok (.iconst 1, 1) := by decide +kernel
theorem dM_addKey_16 : decode bM_addKey 16 = .ok (.iadd, 1) := by decide +kernel
theorem dM_addKey_17 : decode bM_addKey 17 = .ok (.putfield 62, 3) := by decide +kernel
theorem dM_addKey_20 : decode bM_addKey 20 = .ok (.return_, 1) := by decide +kernel
abbrev bM_sort : ByteArray := prog_3_method_5_code
def yM_sort : MethodName := ⟨"HandTablesModel", "sort", "()V"⟩
theorem dM_sort_0 : decode bM_sort 0 = .ok (.sipush 3000, 3) := by decide +kernel
theorem dM_sort_3 : decode bM_sort 3 = .ok (.istore_n 1, 1) := by decide +kernel
theorem dM_sort_4 : decode bM_sort 4 = .ok (.iload_n 1, 1) := by decide +kernel
theorem dM_sort_5 : decode bM_sort 5 = .ok (.ifCond .le 99, 3) := by decide +kernel
theorem dM_sort_8 : decode bM_sort 8 = .ok (.iload_n 1, 1) := by decide +kernel
theorem dM_sort_9 : decode bM_sort 9 = .ok (.istore_n 2, 1) := by decide +kernel
theorem dM_sort_10 : decode bM_sort 10 = .ok (.iload_n 2, 1) := by decide +kernel
theorem dM_sort_11 : decode bM_sort 11 = .ok (.aload_n 0, 1) := by decide +kernel
theorem dM_sort_12 : decode bM_sort 12 = .ok (.getfield 62, 3) := by decide +kernel
theorem dM_sort_15 : decode bM_sort 15 = .ok (.if_icmp .ge 71, 3) := by decide +kernel
theorem dM_sort_18 : decode bM_sort 18 = .ok (.aload_n 0, 1) := by decide +kernel
theorem dM_sort_19 : decode bM_sort 19 = .ok (.getfield 7, 3) := by decide +kernel
theorem dM_sort_22 : decode bM_sort 22 = .ok (.iload_n 2, 1) := by decide +kernel
theorem dM_sort_23 : decode bM_sort 23 = .ok (.iaload, 1) := by decide +kernel
theorem dM_sort_24 : decode bM_sort 24 = .ok (.istore_n 3, 1) := by decide +kernel
theorem dM_sort_25 : decode bM_sort 25 = .ok (.iload_n 2, 1) := by decide +kernel
theorem dM_sort_26 : decode bM_sort 26 = .ok (.istore 4, 2) := by decide +kernel
theorem dM_sort_28 : decode bM_sort 28 = .ok (.iload 4, 2) := by decide +kernel
theorem dM_sort_30 : decode bM_sort 30 = .ok (.iload_n 1, 1) := by decide +kernel
theorem dM_sort_31 : decode bM_sort 31 = .ok (.if_icmp .lt 41, 3) := by decide +kernel
theorem dM_sort_34 : decode bM_sort 34 = .ok (.aload_n 0, 1) := by decide +kernel
theorem dM_sort_35 : decode bM_sort 35 = .ok (.getfield 7, 3) := by decide +kernel
theorem dM_sort_38 : decode bM_sort 38 = .ok (.iload 4, 2) := by decide +kernel
theorem dM_sort_40 : decode bM_sort 40 = .ok (.iload_n 1, 1) := by decide +kernel
theorem dM_sort_41 : decode bM_sort 41 = .ok (.isub, 1) := by decide +kernel
theorem dM_sort_42 : decode bM_sort 42 = .ok (.iaload, 1) := by decide +kernel
theorem dM_sort_43 : decode bM_sort 43 = .ok (.iload_n 3, 1) := by decide +kernel
theorem dM_sort_44 : decode bM_sort 44 = .ok (.if_icmp .le 28, 3) := by decide +kernel
theorem dM_sort_47 : decode bM_sort 47 = .ok (.aload_n 0, 1) := by decide +kernel
theorem dM_sort_48 : decode bM_sort 48 = .ok (.getfield 7, 3) := by decide +kernel
theorem dM_sort_51 : decode bM_sort 51 = .ok (.iload 4, 2) := by decide +kernel
theorem dM_sort_53 : decode bM_sort 53 = .ok (.aload_n 0, 1) := by decide +kernel
theorem dM_sort_54 : decode bM_sort 54 = .ok (.getfield 7, 3) := by decide +kernel
theorem dM_sort_57 : decode bM_sort 57 = .ok (.iload 4, 2) := by decide +kernel
theorem dM_sort_59 : decode bM_sort 59 = .ok (.iload_n 1, 1) := by decide +kernel
theorem dM_sort_60 : decode bM_sort 60 = .ok (.isub, 1) := by decide +kernel
theorem dM_sort_61 : decode bM_sort 61 = .ok (.iaload, 1) := by decide +kernel
theorem dM_sort_62 : decode bM_sort 62 = .ok (.iastore, 1) := by decide +kernel
theorem dM_sort_63 : decode bM_sort 63 = .ok (.iload 4, 2) := by decide +kernel
theorem dM_sort_65 : decode bM_sort 65 = .ok (.iload_n 1, 1) := by decide +kernel
theorem dM_sort_66 : decode bM_sort 66 = .ok (.isub, 1) := by decide +kernel
theorem dM_sort_67 : decode bM_sort 67 = .ok (.istore 4, 2) := by decide +kernel
theorem dM_sort_69 : decode bM_sort 69 = .ok (.goto (-41), 3) := by decide +kernel
theorem dM_sort_72 : decode bM_sort 72 = .ok (.aload_n 0, 1) := by decide +kernel
theorem dM_sort_73 : decode bM_sort 73 = .ok (.getfield 7, 3) := by decide +kernel
theorem dM_sort_76 : decode bM_sort 76 = .ok (.iload 4, 2) := by decide +kernel
theorem dM_sort_78 : decode bM_sort 78 = .ok (.iload_n 3, 1) := by decide +kernel
theorem dM_sort_79 : decode bM_sort 79 = .ok (.iastore, 1) := by decide +kernel
theorem dM_sort_80 : decode bM_sort 80 = .ok (.iinc 2 1, 3) := by decide +kernel
theorem dM_sort_83 : decode bM_sort 83 = .ok (.goto (-73), 3) := by decide +kernel
theorem dM_sort_86 : decode bM_sort 86 = .ok (.iload_n 1, 1) := by decide +kernel
theorem dM_sort_87 : decode bM_sort 87 = .ok (.iconst 2, 1) := by decide +kernel
theorem dM_sort_88 : decode bM_sort 88 = .ok (.if_icmp .le 9, 3) := by decide +kernel
theorem dM_sort_91 : decode bM_sort 91 = .ok (.iload_n 1, 1) := by decide +kernel
theorem dM_sort_92 : decode bM_sort 92 = .ok (.iconst 3, 1) := by decide +kernel
theorem dM_sort_93 : decode bM_sort 93 = .ok (.idiv, 1) := by decide +kernel
theorem dM_sort_94 : decode bM_sort 94 = .ok (.goto 6, 3) := by decide +kernel
theorem dM_sort_97 : decode bM_sort 97 = .ok (.iload_n 1, 1) := by decide +kernel
theorem dM_sort_98 : decode bM_sort 98 = .ok (.iconst 1, 1) := by decide +kernel
theorem dM_sort_99 : decode bM_sort 99 = .ok (.isub, 1) := by decide +kernel
theorem dM_sort_100 : decode bM_sort 100 = .ok (.istore_n 1, 1) := by decide +kernel
theorem dM_sort_101 : decode bM_sort 101 = .ok (.goto (-97), 3) := by decide +kernel
theorem dM_sort_104 : decode bM_sort 104 = .ok (.return_, 1) := by decide +kernel
abbrev bM_freshDeck : ByteArray := prog_3_method_41_code
def yM_freshDeck : MethodName := ⟨"HandTablesModel", "freshDeck", "()V"⟩
theorem dM_freshDeck_0 : decode bM_freshDeck 0 = .ok (.iconst 0, 1) := by decide +kernel
theorem dM_freshDeck_1 : decode bM_freshDeck 1 = .ok (.istore_n 1, 1) := by decide +kernel
theorem dM_freshDeck_2 : decode bM_freshDeck 2 = .ok (.iload_n 1, 1) := by decide +kernel
theorem dM_freshDeck_3 : decode bM_freshDeck 3 = .ok (.bipush 52, 2) := by decide +kernel
theorem dM_freshDeck_5 : decode bM_freshDeck 5 = .ok (.if_icmp .ge 16, 3) := by decide +kernel
theorem dM_freshDeck_8 : decode bM_freshDeck 8 = .ok (.aload_n 0, 1) := by decide +kernel
theorem dM_freshDeck_9 : decode bM_freshDeck 9 = .ok (.getfield 28, 3) := by decide +kernel
theorem dM_freshDeck_12 : decode bM_freshDeck 12 = .ok (.iload_n 1, 1) := by decide +kernel
theorem dM_freshDeck_13 : decode bM_freshDeck 13 = .ok (.iload_n 1, 1) := by decide +kernel
theorem dM_freshDeck_14 : decode bM_freshDeck 14 = .ok (.iastore, 1) := by decide +kernel
theorem dM_freshDeck_15 : decode bM_freshDeck 15 = .ok (.iinc 1 1, 3) := by decide +kernel
theorem dM_freshDeck_18 : decode bM_freshDeck 18 = .ok (.goto (-16), 3) := by decide +kernel
theorem dM_freshDeck_21 : decode bM_freshDeck 21 = .ok (.aload_n 0, 1) := by decide +kernel
theorem dM_freshDeck_22 : decode bM_freshDeck 22 = .ok (.iconst 0, 1) := by decide +kernel
theorem dM_freshDeck_23 : decode bM_freshDeck 23 = .ok (.putfield 149, 3) := by decide +kernel
theorem dM_freshDeck_26 : decode bM_freshDeck 26 = .ok (.return_, 1) := by decide +kernel
abbrev bM_thrown : ByteArray := prog_3_method_2_code
def yM_thrown : MethodName := ⟨"HandTablesModel", "thrown", "()I"⟩
theorem dM_thrown_0 : decode bM_thrown 0 = .ok (.aload_n 0, 1) := by decide +kernel
theorem dM_thrown_1 : decode bM_thrown 1 = .ok (.getfield 58, 3) := by decide +kernel
theorem dM_thrown_4 : decode bM_thrown 4 = .ok (.ireturn, 1) := by decide +kernel
abbrev bM_value : ByteArray := prog_3_method_14_code
def yM_value : MethodName := ⟨"HandTablesModel", "value", "(J)I"⟩
theorem dM_value_0 : decode bM_value 0 = .ok (.aload_n 0, 1) := by decide +kernel
theorem dM_value_1 : decode bM_value 1 = .ok (.lload_n 1, 1) := by decide +kernel
theorem dM_value_2 : decode bM_value 2 = .ok (.invokestatic 80, 3) := by decide +kernel
theorem dM_value_5 : decode bM_value 5 = .ok (.ifCond .eq 7, 3) := by decide +kernel
theorem dM_value_8 : decode bM_value 8 = .ok (.iconst 0, 1) := by decide +kernel
theorem dM_value_9 : decode bM_value 9 = .ok (.goto 4, 3) := by decide +kernel
theorem dM_value_12 : decode bM_value 12 = .ok (.iconst 1, 1) := by decide +kernel
theorem dM_value_13 : decode bM_value 13 = .ok (.putfield 58, 3) := by decide +kernel
theorem dM_value_16 : decode bM_value 16 = .ok (.aload_n 0, 1) := by decide +kernel
theorem dM_value_17 : decode bM_value 17 = .ok (.getfield 58, 3) := by decide +kernel
theorem dM_value_20 : decode bM_value 20 = .ok (.ifCond .le 5, 3) := by decide +kernel
theorem dM_value_23 : decode bM_value 23 = .ok (.iconst 0, 1) := by decide +kernel
theorem dM_value_24 : decode bM_value 24 = .ok (.ireturn, 1) := by decide +kernel
theorem dM_value_25 : decode bM_value 25 = .ok (.aload_n 0, 1) := by decide +kernel
theorem dM_value_26 : decode bM_value 26 = .ok (.lload_n 1, 1) := by decide +kernel
theorem dM_value_27 : decode bM_value 27 = .ok (.invokevirtual 84, 3) := by decide +kernel
theorem dM_value_30 : decode bM_value 30 = .ok (.aload_n 0, 1) := by decide +kernel
theorem dM_value_31 : decode bM_value 31 = .ok (.aload_n 0, 1) := by decide +kernel
theorem dM_value_32 : decode bM_value 32 = .ok (.invokevirtual 88, 3) := by decide +kernel
theorem dM_value_35 : decode bM_value 35 = .ok (.invokevirtual 91, 3) := by decide +kernel
theorem dM_value_38 : decode bM_value 38 = .ok (.ireturn, 1) := by decide +kernel
abbrev bM_isHand : ByteArray := prog_3_method_10_code
def yM_isHand : MethodName := ⟨"HandTablesModel", "isHand", "(J)Z"⟩
theorem dM_isHand_0 : decode bM_isHand 0 = .ok (.iconst 0, 1) := by decide +kernel
theorem dM_isHand_1 : decode bM_isHand 1 = .ok (.istore_n 2, 1) := by decide +kernel
theorem dM_isHand_2 : decode bM_isHand 2 = .ok (.iconst 0, 1) := by decide +kernel
theorem dM_isHand_3 : decode bM_isHand 3 = .ok (.istore_n 3, 1) := by decide +kernel
theorem dM_isHand_4 : decode bM_isHand 4 = .ok (.iload_n 3, 1) := by decide +kernel
theorem dM_isHand_5 : decode bM_isHand 5 = .ok (.bipush 64, 2) := by decide +kernel
theorem dM_isHand_7 : decode bM_isHand 7 = .ok (.if_icmp .ge 18, 3) := by decide +kernel
theorem dM_isHand_10 : decode bM_isHand 10 = .ok (.iload_n 2, 1) := by decide +kernel
theorem dM_isHand_11 : decode bM_isHand 11 = .ok (.lload_n 0, 1) := by decide +kernel
theorem dM_isHand_12 : decode bM_isHand 12 = .ok (.iload_n 3, 1) := by decide +kernel
theorem dM_isHand_13 : decode bM_isHand 13 = .ok (.lshr, 1) := by decide +kernel
theorem dM_isHand_14 : decode bM_isHand 14 = .ok (.lconst 1, 1) := by decide +kernel
theorem dM_isHand_15 : decode bM_isHand 15 = .ok (.land, 1) := by decide +kernel
theorem dM_isHand_16 : decode bM_isHand 16 = .ok (.l2i, 1) := by decide +kernel
theorem dM_isHand_17 : decode bM_isHand 17 = .ok (.iadd, 1) := by decide +kernel
theorem dM_isHand_18 : decode bM_isHand 18 = .ok (.istore_n 2, 1) := by decide +kernel
theorem dM_isHand_19 : decode bM_isHand 19 = .ok (.iinc 3 1, 3) := by decide +kernel
theorem dM_isHand_22 : decode bM_isHand 22 = .ok (.goto (-18), 3) := by decide +kernel
theorem dM_isHand_25 : decode bM_isHand 25 = .ok (.lload_n 0, 1) := by decide +kernel
theorem dM_isHand_26 : decode bM_isHand 26 = .ok (.bipush 52, 2) := by decide +kernel
theorem dM_isHand_28 : decode bM_isHand 28 = .ok (.lshr, 1) := by decide +kernel
theorem dM_isHand_29 : decode bM_isHand 29 = .ok (.lconst 0, 1) := by decide +kernel
theorem dM_isHand_30 : decode bM_isHand 30 = .ok (.lcmp, 1) := by decide +kernel
theorem dM_isHand_31 : decode bM_isHand 31 = .ok (.ifCond .ne 18, 3) := by decide +kernel
theorem dM_isHand_34 : decode bM_isHand 34 = .ok (.iload_n 2, 1) := by decide +kernel
theorem dM_isHand_35 : decode bM_isHand 35 = .ok (.iconst 5, 1) := by decide +kernel
theorem dM_isHand_36 : decode bM_isHand 36 = .ok (.if_icmp .lt 13, 3) := by decide +kernel
theorem dM_isHand_39 : decode bM_isHand 39 = .ok (.iload_n 2, 1) := by decide +kernel
theorem dM_isHand_40 : decode bM_isHand 40 = .ok (.bipush 7, 2) := by decide +kernel
theorem dM_isHand_42 : decode bM_isHand 42 = .ok (.if_icmp .gt 7, 3) := by decide +kernel
theorem dM_isHand_45 : decode bM_isHand 45 = .ok (.iconst 1, 1) := by decide +kernel
theorem dM_isHand_46 : decode bM_isHand 46 = .ok (.goto 4, 3) := by decide +kernel
theorem dM_isHand_49 : decode bM_isHand 49 = .ok (.iconst 0, 1) := by decide +kernel
theorem dM_isHand_50 : decode bM_isHand 50 = .ok (.ireturn, 1) := by decide +kernel
abbrev bM_takeCards : ByteArray := prog_3_method_11_code
def yM_takeCards : MethodName := ⟨"HandTablesModel", "takeCards", "(J)V"⟩
theorem dM_takeCards_0 : decode bM_takeCards 0 = .ok (.aload_n 0, 1) := by decide +kernel
theorem dM_takeCards_1 : decode bM_takeCards 1 = .ok (.iconst 0, 1) := by decide +kernel
theorem dM_takeCards_2 : decode bM_takeCards 2 = .ok (.putfield 74, 3) := by decide +kernel
theorem dM_takeCards_5 : decode bM_takeCards 5 = .ok (.iconst 0, 1) := by decide +kernel
theorem dM_takeCards_6 : decode bM_takeCards 6 = .ok (.istore_n 3, 1) := by decide +kernel
theorem dM_takeCards_7 : decode bM_takeCards 7 = .ok (.iload_n 3, 1) := by decide +kernel
theorem dM_takeCards_8 : decode bM_takeCards 8 = .ok (.bipush 52, 2) := by decide +kernel
theorem dM_takeCards_10 : decode bM_takeCards 10 = .ok (.if_icmp .ge 39, 3) := by decide +kernel
theorem dM_takeCards_13 : decode bM_takeCards 13 = .ok (.lload_n 1, 1) := by decide +kernel
theorem dM_takeCards_14 : decode bM_takeCards 14 = .ok (.iload_n 3, 1) := by decide +kernel
theorem dM_takeCards_15 : decode bM_takeCards 15 = .ok (.lshr, 1) := by decide +kernel
theorem dM_takeCards_16 : decode bM_takeCards 16 = .ok (.lconst 1, 1) := by decide +kernel
theorem dM_takeCards_17 : decode bM_takeCards 17 = .ok (.land, 1) := by decide +kernel
theorem dM_takeCards_18 : decode bM_takeCards 18 = .ok (.lconst 1, 1) := by decide +kernel
theorem dM_takeCards_19 : decode bM_takeCards 19 = .ok (.lcmp, 1) := by decide +kernel
theorem dM_takeCards_20 : decode bM_takeCards 20 = .ok (.ifCond .ne 23, 3) := by decide +kernel
theorem dM_takeCards_23 : decode bM_takeCards 23 = .ok (.aload_n 0, 1) := by decide +kernel
theorem dM_takeCards_24 : decode bM_takeCards 24 = .ok (.getfield 19, 3) := by decide +kernel
theorem dM_takeCards_27 : decode bM_takeCards 27 = .ok (.aload_n 0, 1) := by decide +kernel
theorem dM_takeCards_28 : decode bM_takeCards 28 = .ok (.getfield 74, 3) := by decide +kernel
theorem dM_takeCards_31 : decode bM_takeCards 31 = .ok (.iload_n 3, 1) := by decide +kernel
theorem dM_takeCards_32 : decode bM_takeCards 32 = .ok (.iastore, 1) := by decide +kernel
theorem dM_takeCards_33 : decode bM_takeCards 33 = .ok (.aload_n 0, 1) := by decide +kernel
theorem dM_takeCards_34 : decode bM_takeCards 34 = .ok (.dup, 1) := by decide +kernel
theorem dM_takeCards_35 : decode bM_takeCards 35 = .ok (.getfield 74, 3) := by decide +kernel
theorem dM_takeCards_38 : decode bM_takeCards 38 = .ok (.iconst 1, 1) := by decide +kernel
theorem dM_takeCards_39 : decode bM_takeCards 39 = .ok (.iadd, 1) := by decide +kernel
theorem dM_takeCards_40 : decode bM_takeCards 40 = .ok (.putfield 74, 3) := by decide +kernel
theorem dM_takeCards_43 : decode bM_takeCards 43 = .ok (.iinc 3 1, 3) := by decide +kernel
theorem dM_takeCards_46 : decode bM_takeCards 46 = .ok (.goto (-39), 3) := by decide +kernel
theorem dM_takeCards_49 : decode bM_takeCards 49 = .ok (.return_, 1) := by decide +kernel
abbrev bM_bestKey : ByteArray := prog_3_method_13_code
def yM_bestKey : MethodName := ⟨"HandTablesModel", "bestKey", "()I"⟩
theorem dM_bestKey_0 : decode bM_bestKey 0 = .ok (.iconst (-1), 1) := by decide +kernel
theorem dM_bestKey_1 : decode bM_bestKey 1 = .ok (.istore_n 1, 1) := by decide +kernel
theorem dM_bestKey_2 : decode bM_bestKey 2 = .ok (.iconst 0, 1) := by decide +kernel
theorem dM_bestKey_3 : decode bM_bestKey 3 = .ok (.istore_n 2, 1) := by decide +kernel
theorem dM_bestKey_4 : decode bM_bestKey 4 = .ok (.iload_n 2, 1) := by decide +kernel
theorem dM_bestKey_5 : decode bM_bestKey 5 = .ok (.iconst 1, 1) := by decide +kernel
theorem dM_bestKey_6 : decode bM_bestKey 6 = .ok (.aload_n 0, 1) := by decide +kernel
theorem dM_bestKey_7 : decode bM_bestKey 7 = .ok (.getfield 74, 3) := by decide +kernel
theorem dM_bestKey_10 : decode bM_bestKey 10 = .ok (.ishl, 1) := by decide +kernel
theorem dM_bestKey_11 : decode bM_bestKey 11 = .ok (.if_icmp .ge 26, 3) := by decide +kernel
theorem dM_bestKey_14 : decode bM_bestKey 14 = .ok (.aload_n 0, 1) := by decide +kernel
theorem dM_bestKey_15 : decode bM_bestKey 15 = .ok (.iload_n 2, 1) := by decide +kernel
theorem dM_bestKey_16 : decode bM_bestKey 16 = .ok (.invokevirtual 77, 3) := by decide +kernel
theorem dM_bestKey_19 : decode bM_bestKey 19 = .ok (.istore_n 3, 1) := by decide +kernel
theorem dM_bestKey_20 : decode bM_bestKey 20 = .ok (.iload_n 3, 1) := by decide +kernel
theorem dM_bestKey_21 : decode bM_bestKey 21 = .ok (.iload_n 1, 1) := by decide +kernel
theorem dM_bestKey_22 : decode bM_bestKey 22 = .ok (.if_icmp .le 7, 3) := by decide +kernel
theorem dM_bestKey_25 : decode bM_bestKey 25 = .ok (.iload_n 3, 1) := by decide +kernel
theorem dM_bestKey_26 : decode bM_bestKey 26 = .ok (.goto 4, 3) := by decide +kernel
theorem dM_bestKey_29 : decode bM_bestKey 29 = .ok (.iload_n 1, 1) := by decide +kernel
theorem dM_bestKey_30 : decode bM_bestKey 30 = .ok (.istore_n 1, 1) := by decide +kernel
theorem dM_bestKey_31 : decode bM_bestKey 31 = .ok (.iinc 2 1, 3) := by decide +kernel
theorem dM_bestKey_34 : decode bM_bestKey 34 = .ok (.goto (-30), 3) := by decide +kernel
theorem dM_bestKey_37 : decode bM_bestKey 37 = .ok (.iload_n 1, 1) := by decide +kernel
theorem dM_bestKey_38 : decode bM_bestKey 38 = .ok (.ireturn, 1) := by decide +kernel
abbrev bM_keyOfSome : ByteArray := prog_3_method_12_code
def yM_keyOfSome : MethodName := ⟨"HandTablesModel", "keyOfSome", "(I)I"⟩
theorem dM_keyOfSome_0 : decode bM_keyOfSome 0 = .ok (.iconst 0, 1) := by decide +kernel
theorem dM_keyOfSome_1 : decode bM_keyOfSome 1 = .ok (.istore_n 2, 1) := by decide +kernel
theorem dM_keyOfSome_2 : decode bM_keyOfSome 2 = .ok (.iconst 1, 1) := by decide +kernel
theorem dM_keyOfSome_3 : decode bM_keyOfSome 3 = .ok (.istore_n 3, 1) := by decide +kernel
theorem dM_keyOfSome_4 : decode bM_keyOfSome 4 = .ok (.iconst (-1), 1) := by decide +kernel
theorem dM_keyOfSome_5 : decode bM_keyOfSome 5 = .ok (.istore 4, 2) := by decide +kernel
theorem dM_keyOfSome_7 : decode bM_keyOfSome 7 = .ok (.iconst 0, 1) := by decide +kernel
theorem dM_keyOfSome_8 : decode bM_keyOfSome 8 = .ok (.istore 5, 2) := by decide +kernel
theorem dM_keyOfSome_10 : decode bM_keyOfSome 10 = .ok (.iload 5, 2) := by decide +kernel
theorem dM_keyOfSome_12 : decode bM_keyOfSome 12 = .ok (.aload_n 0, 1) := by decide +kernel
theorem dM_keyOfSome_13 : decode bM_keyOfSome 13 = .ok (.getfield 74, 3) := by decide +kernel
theorem dM_keyOfSome_16 : decode bM_keyOfSome 16 = .ok (.if_icmp .ge 84, 3) := by decide +kernel
theorem dM_keyOfSome_19 : decode bM_keyOfSome 19 = .ok (.iload_n 1, 1) := by decide +kernel
theorem dM_keyOfSome_20 : decode bM_keyOfSome 20 = .ok (.iload 5, 2) := by decide +kernel
theorem dM_keyOfSome_22 : decode bM_keyOfSome 22 = .ok (.ishr, 1) := by decide +kernel
theorem dM_keyOfSome_23 : decode bM_keyOfSome 23 = .ok (.iconst 1, 1) := by decide +kernel
theorem dM_keyOfSome_24 : decode bM_keyOfSome 24 = .ok (.iand, 1) := by decide +kernel
theorem dM_keyOfSome_25 : decode bM_keyOfSome 25 = .ok (.iconst 1, 1) := by decide +kernel
theorem dM_keyOfSome_26 : decode bM_keyOfSome 26 = .ok (.if_icmp .ne 68, 3) := by decide +kernel
theorem dM_keyOfSome_29 : decode bM_keyOfSome 29 = .ok (.iload_n 2, 1) := by decide +kernel
theorem dM_keyOfSome_30 : decode bM_keyOfSome 30 = .ok (.iconst 5, 1) := by decide +kernel
theorem dM_keyOfSome_31 : decode bM_keyOfSome 31 = .ok (.if_icmp .ne 5, 3) := by decide +kernel
theorem dM_keyOfSome_34 : decode bM_keyOfSome 34 = .ok (.iconst (-1), 1) := by decide +kernel
theorem dM_keyOfSome_35 : decode bM_keyOfSome 35 = .ok (.ireturn, 1) := by decide +kernel
theorem dM_keyOfSome_36 : decode bM_keyOfSome 36 = .ok (.aload_n 0, 1) := by decide +kernel
theorem dM_keyOfSome_37 : decode bM_keyOfSome 37 = .ok (.getfield 13, 3) := by decide +kernel
theorem dM_keyOfSome_40 : decode bM_keyOfSome 40 = .ok (.iload_n 2, 1) := by decide +kernel
theorem dM_keyOfSome_41 : decode bM_keyOfSome 41 = .ok (.aload_n 0, 1) := by decide +kernel
theorem dM_keyOfSome_42 : decode bM_keyOfSome 42 = .ok (.getfield 19, 3) := by decide +kernel
theorem dM_keyOfSome_45 : decode bM_keyOfSome 45 = .ok (.iload 5, 2) := by decide +kernel
theorem dM_keyOfSome_47 : decode bM_keyOfSome 47 = .ok (.iaload, 1) := by decide +kernel
theorem dM_keyOfSome_48 : decode bM_keyOfSome 48 = .ok (.iconst 4, 1) := by decide +kernel
theorem dM_keyOfSome_49 : decode bM_keyOfSome 49 = .ok (.idiv, 1) := by decide +kernel
theorem dM_keyOfSome_50 : decode bM_keyOfSome 50 = .ok (.iastore, 1) := by decide +kernel
theorem dM_keyOfSome_51 : decode bM_keyOfSome 51 = .ok (.iload_n 3, 1) := by decide +kernel
theorem dM_keyOfSome_52 : decode bM_keyOfSome 52 = .ok (.ifCond .eq 26, 3) := by decide +kernel
theorem dM_keyOfSome_55 : decode bM_keyOfSome 55 = .ok (.iload 4, 2) := by decide +kernel
theorem dM_keyOfSome_57 : decode bM_keyOfSome 57 = .ok (.ifCond .lt 17, 3) := by decide +kernel
theorem dM_keyOfSome_60 : decode bM_keyOfSome 60 = .ok (.aload_n 0, 1) := by decide +kernel
theorem dM_keyOfSome_61 : decode bM_keyOfSome 61 = .ok (.getfield 19, 3) := by decide +kernel
theorem dM_keyOfSome_64 : decode bM_keyOfSome 64 = .ok (.iload 5, 2) := by decide +kernel
theorem dM_keyOfSome_66 : decode bM_keyOfSome 66 = .ok (.iaload, 1) := by decide +kernel
theorem dM_keyOfSome_67 : decode bM_keyOfSome 67 = .ok (.iconst 4, 1) := by decide +kernel
theorem dM_keyOfSome_68 : decode bM_keyOfSome 68 = .ok (.irem, 1) := by decide +kernel
theorem dM_keyOfSome_69 : decode bM_keyOfSome 69 = .ok (.iload 4, 2) := by decide +kernel
theorem dM_keyOfSome_71 : decode bM_keyOfSome 71 = .ok (.if_icmp .ne 7, 3) := by decide +kernel
theorem dM_keyOfSome_74 : decode bM_keyOfSome 74 = .ok (.iconst 1, 1) := by decide +kernel
theorem dM_keyOfSome_75 : decode bM_keyOfSome 75 = .ok (.goto 4, 3) := by decide +kernel
theorem dM_keyOfSome_78 : decode bM_keyOfSome 78 = .ok (.iconst 0, 1) := by decide +kernel
theorem dM_keyOfSome_79 : decode bM_keyOfSome 79 = .ok (.istore_n 3, 1) := by decide +kernel
theorem dM_keyOfSome_80 : decode bM_keyOfSome 80 = .ok (.aload_n 0, 1) := by decide +kernel
theorem dM_keyOfSome_81 : decode bM_keyOfSome 81 = .ok (.getfield 19, 3) := by decide +kernel
theorem dM_keyOfSome_84 : decode bM_keyOfSome 84 = .ok (.iload 5, 2) := by decide +kernel
theorem dM_keyOfSome_86 : decode bM_keyOfSome 86 = .ok (.iaload, 1) := by decide +kernel
theorem dM_keyOfSome_87 : decode bM_keyOfSome 87 = .ok (.iconst 4, 1) := by decide +kernel
theorem dM_keyOfSome_88 : decode bM_keyOfSome 88 = .ok (.irem, 1) := by decide +kernel
theorem dM_keyOfSome_89 : decode bM_keyOfSome 89 = .ok (.istore 4, 2) := by decide +kernel
theorem dM_keyOfSome_91 : decode bM_keyOfSome 91 = .ok (.iinc 2 1, 3) := by decide +kernel
theorem dM_keyOfSome_94 : decode bM_keyOfSome 94 = .ok (.iinc 5 1, 3) := by decide +kernel
theorem dM_keyOfSome_97 : decode bM_keyOfSome 97 = .ok (.goto (-87), 3) := by decide +kernel
theorem dM_keyOfSome_100 : decode bM_keyOfSome 100 = .ok (.iload_n 2, 1) := by decide +kernel
theorem dM_keyOfSome_101 : decode bM_keyOfSome 101 = .ok (.iconst 5, 1) := by decide +kernel
theorem dM_keyOfSome_102 : decode bM_keyOfSome 102 = .ok (.if_icmp .ne 11, 3) := by decide +kernel
theorem dM_keyOfSome_105 : decode bM_keyOfSome 105 = .ok (.aload_n 0, 1) := by decide +kernel
theorem dM_keyOfSome_106 : decode bM_keyOfSome 106 = .ok (.iload_n 3, 1) := by decide +kernel
theorem dM_keyOfSome_107 : decode bM_keyOfSome 107 = .ok (.invokevirtual 44, 3) := by decide +kernel
theorem dM_keyOfSome_110 : decode bM_keyOfSome 110 = .ok (.goto 4, 3) := by decide +kernel
theorem dM_keyOfSome_113 : decode bM_keyOfSome 113 = .ok (.iconst (-1), 1) := by decide +kernel
theorem dM_keyOfSome_114 : decode bM_keyOfSome 114 = .ok (.ireturn, 1) := by decide +kernel
abbrev bM_below : ByteArray := prog_3_method_9_code
def yM_below : MethodName := ⟨"HandTablesModel", "below", "(I)I"⟩
theorem dM_below_0 : decode bM_below 0 = .ok (.iconst 0, 1) := by decide +kernel
theorem dM_below_1 : decode bM_below 1 = .ok (.istore_n 2, 1) := by decide +kernel
theorem dM_below_2 : decode bM_below 2 = .ok (.sipush 7462, 3) := by decide +kernel
theorem dM_below_5 : decode bM_below 5 = .ok (.istore_n 3, 1) := by decide +kernel
theorem dM_below_6 : decode bM_below 6 = .ok (.iload_n 2, 1) := by decide +kernel
theorem dM_below_7 : decode bM_below 7 = .ok (.iload_n 3, 1) := by decide +kernel
theorem dM_below_8 : decode bM_below 8 = .ok (.if_icmp .ge 35, 3) := by decide +kernel
theorem dM_below_11 : decode bM_below 11 = .ok (.iload_n 2, 1) := by decide +kernel
theorem dM_below_12 : decode bM_below 12 = .ok (.iload_n 3, 1) := by decide +kernel
theorem dM_below_13 : decode bM_below 13 = .ok (.iadd, 1) := by decide +kernel
theorem dM_below_14 : decode bM_below 14 = .ok (.iconst 2, 1) := by decide +kernel
theorem dM_below_15 : decode bM_below 15 = .ok (.idiv, 1) := by decide +kernel
theorem dM_below_16 : decode bM_below 16 = .ok (.istore 4, 2) := by decide +kernel
theorem dM_below_18 : decode bM_below 18 = .ok (.aload_n 0, 1) := by decide +kernel
theorem dM_below_19 : decode bM_below 19 = .ok (.getfield 7, 3) := by decide +kernel
theorem dM_below_22 : decode bM_below 22 = .ok (.iload 4, 2) := by decide +kernel
theorem dM_below_24 : decode bM_below 24 = .ok (.iaload, 1) := by decide +kernel
theorem dM_below_25 : decode bM_below 25 = .ok (.iload_n 1, 1) := by decide +kernel
theorem dM_below_26 : decode bM_below 26 = .ok (.if_icmp .ge 11, 3) := by decide +kernel
theorem dM_below_29 : decode bM_below 29 = .ok (.iload 4, 2) := by decide +kernel
theorem dM_below_31 : decode bM_below 31 = .ok (.iconst 1, 1) := by decide +kernel
theorem dM_below_32 : decode bM_below 32 = .ok (.iadd, 1) := by decide +kernel
theorem dM_below_33 : decode bM_below 33 = .ok (.istore_n 2, 1) := by decide +kernel
theorem dM_below_34 : decode bM_below 34 = .ok (.goto 6, 3) := by decide +kernel
theorem dM_below_37 : decode bM_below 37 = .ok (.iload 4, 2) := by decide +kernel
theorem dM_below_39 : decode bM_below 39 = .ok (.istore_n 3, 1) := by decide +kernel
theorem dM_below_40 : decode bM_below 40 = .ok (.goto (-34), 3) := by decide +kernel
theorem dM_below_43 : decode bM_below 43 = .ok (.iload_n 2, 1) := by decide +kernel
theorem dM_below_44 : decode bM_below 44 = .ok (.ireturn, 1) := by decide +kernel
abbrev bM_category : ByteArray := prog_3_method_15_code
def yM_category : MethodName := ⟨"HandTablesModel", "category", "(J)I"⟩
theorem dM_category_0 : decode bM_category 0 = .ok (.aload_n 0, 1) := by decide +kernel
theorem dM_category_1 : decode bM_category 1 = .ok (.lload_n 1, 1) := by decide +kernel
theorem dM_category_2 : decode bM_category 2 = .ok (.invokestatic 80, 3) := by decide +kernel
theorem dM_category_5 : decode bM_category 5 = .ok (.ifCond .eq 7, 3) := by decide +kernel
theorem dM_category_8 : decode bM_category 8 = .ok (.iconst 0, 1) := by decide +kernel
theorem dM_category_9 : decode bM_category 9 = .ok (.goto 4, 3) := by decide +kernel
theorem dM_category_12 : decode bM_category 12 = .ok (.iconst 1, 1) := by decide +kernel
theorem dM_category_13 : decode bM_category 13 = .ok (.putfield 58, 3) := by decide +kernel
theorem dM_category_16 : decode bM_category 16 = .ok (.aload_n 0, 1) := by decide +kernel
theorem dM_category_17 : decode bM_category 17 = .ok (.getfield 58, 3) := by decide +kernel
theorem dM_category_20 : decode bM_category 20 = .ok (.ifCond .le 5, 3) := by decide +kernel
theorem dM_category_23 : decode bM_category 23 = .ok (.iconst 0, 1) := by decide +kernel
theorem dM_category_24 : decode bM_category 24 = .ok (.ireturn, 1) := by decide +kernel
theorem dM_category_25 : decode bM_category 25 = .ok (.aload_n 0, 1) := by decide +kernel
theorem dM_category_26 : decode bM_category 26 = .ok (.lload_n 1, 1) := by decide +kernel
theorem dM_category_27 : decode bM_category 27 = .ok (.invokevirtual 84, 3) := by decide +kernel
theorem dM_category_30 : decode bM_category 30 = .ok (.aload_n 0, 1) := by decide +kernel
theorem dM_category_31 : decode bM_category 31 = .ok (.invokevirtual 88, 3) := by decide +kernel
theorem dM_category_34 : decode bM_category 34 = .ok (.ldc 73, 2) := by decide +kernel
theorem dM_category_36 : decode bM_category 36 = .ok (.idiv, 1) := by decide +kernel
theorem dM_category_37 : decode bM_category 37 = .ok (.ireturn, 1) := by decide +kernel
abbrev bM_best : ByteArray := prog_3_method_16_code
def yM_best : MethodName := ⟨"HandTablesModel", "best", "(J)J"⟩
theorem dM_best_0 : decode bM_best 0 = .ok (.aload_n 0, 1) := by decide +kernel
theorem dM_best_1 : decode bM_best 1 = .ok (.lload_n 1, 1) := by decide +kernel
theorem dM_best_2 : decode bM_best 2 = .ok (.invokestatic 80, 3) := by decide +kernel
theorem dM_best_5 : decode bM_best 5 = .ok (.ifCond .eq 7, 3) := by decide +kernel
theorem dM_best_8 : decode bM_best 8 = .ok (.iconst 0, 1) := by decide +kernel
theorem dM_best_9 : decode bM_best 9 = .ok (.goto 4, 3) := by decide +kernel
theorem dM_best_12 : decode bM_best 12 = .ok (.iconst 1, 1) := by decide +kernel
theorem dM_best_13 : decode bM_best 13 = .ok (.putfield 58, 3) := by decide +kernel
theorem dM_best_16 : decode bM_best 16 = .ok (.aload_n 0, 1) := by decide +kernel
theorem dM_best_17 : decode bM_best 17 = .ok (.getfield 58, 3) := by decide +kernel
theorem dM_best_20 : decode bM_best 20 = .ok (.ifCond .le 5, 3) := by decide +kernel
theorem dM_best_23 : decode bM_best 23 = .ok (.lconst 0, 1) := by decide +kernel
theorem dM_best_24 : decode bM_best 24 = .ok (.lreturn, 1) := by decide +kernel
theorem dM_best_25 : decode bM_best 25 = .ok (.aload_n 0, 1) := by decide +kernel
theorem dM_best_26 : decode bM_best 26 = .ok (.lload_n 1, 1) := by decide +kernel
theorem dM_best_27 : decode bM_best 27 = .ok (.invokevirtual 84, 3) := by decide +kernel
theorem dM_best_30 : decode bM_best 30 = .ok (.aload_n 0, 1) := by decide +kernel
theorem dM_best_31 : decode bM_best 31 = .ok (.invokevirtual 88, 3) := by decide +kernel
theorem dM_best_34 : decode bM_best 34 = .ok (.istore_n 3, 1) := by decide +kernel
theorem dM_best_35 : decode bM_best 35 = .ok (.lconst 0, 1) := by decide +kernel
theorem dM_best_36 : decode bM_best 36 = .ok (.lstore 4, 2) := by decide +kernel
theorem dM_best_38 : decode bM_best 38 = .ok (.iconst 0, 1) := by decide +kernel
theorem dM_best_39 : decode bM_best 39 = .ok (.istore 6, 2) := by decide +kernel
theorem dM_best_41 : decode bM_best 41 = .ok (.iload 6, 2) := by decide +kernel
theorem dM_best_43 : decode bM_best 43 = .ok (.iconst 1, 1) := by decide +kernel
theorem dM_best_44 : decode bM_best 44 = .ok (.aload_n 0, 1) := by decide +kernel
theorem dM_best_45 : decode bM_best 45 = .ok (.getfield 74, 3) := by decide +kernel
theorem dM_best_48 : decode bM_best 48 = .ok (.ishl, 1) := by decide +kernel
theorem dM_best_49 : decode bM_best 49 = .ok (.if_icmp .ge 87, 3) := by decide +kernel
theorem dM_best_52 : decode bM_best 52 = .ok (.aload_n 0, 1) := by decide +kernel
theorem dM_best_53 : decode bM_best 53 = .ok (.iload 6, 2) := by decide +kernel
theorem dM_best_55 : decode bM_best 55 = .ok (.invokevirtual 77, 3) := by decide +kernel
theorem dM_best_58 : decode bM_best 58 = .ok (.iload_n 3, 1) := by decide +kernel
theorem dM_best_59 : decode bM_best 59 = .ok (.if_icmp .ne 71, 3) := by decide +kernel
theorem dM_best_62 : decode bM_best 62 = .ok (.lconst 0, 1) := by decide +kernel
theorem dM_best_63 : decode bM_best 63 = .ok (.lstore 7, 2) := by decide +kernel
theorem dM_best_65 : decode bM_best 65 = .ok (.iconst 0, 1) := by decide +kernel
theorem dM_best_66 : decode bM_best 66 = .ok (.istore 9, 2) := by decide +kernel
theorem dM_best_68 : decode bM_best 68 = .ok (.iload 9, 2) := by decide +kernel
theorem dM_best_70 : decode bM_best 70 = .ok (.aload_n 0, 1) := by decide +kernel
theorem dM_best_71 : decode bM_best 71 = .ok (.getfield 74, 3) := by decide +kernel
theorem dM_best_74 : decode bM_best 74 = .ok (.if_icmp .ge 39, 3) := by decide +kernel
theorem dM_best_77 : decode bM_best 77 = .ok (.iload 6, 2) := by decide +kernel
theorem dM_best_79 : decode bM_best 79 = .ok (.iload 9, 2) := by decide +kernel
theorem dM_best_81 : decode bM_best 81 = .ok (.ishr, 1) := by decide +kernel
theorem dM_best_82 : decode bM_best 82 = .ok (.iconst 1, 1) := by decide +kernel
theorem dM_best_83 : decode bM_best 83 = .ok (.iand, 1) := by decide +kernel
theorem dM_best_84 : decode bM_best 84 = .ok (.iconst 1, 1) := by decide +kernel
theorem dM_best_85 : decode bM_best 85 = .ok (.if_icmp .ne 18, 3) := by decide +kernel
theorem dM_best_88 : decode bM_best 88 = .ok (.lload 7, 2) := by decide +kernel
theorem dM_best_90 : decode bM_best 90 = .ok (.lconst 1, 1) := by decide +kernel
theorem dM_best_91 : decode bM_best 91 = .ok (.aload_n 0, 1) := by decide +kernel
theorem dM_best_92 : decode bM_best 92 = .ok (.getfield 19, 3) := by decide +kernel
theorem dM_best_95 : decode bM_best 95 = .ok (.iload 9, 2) := by decide +kernel
theorem dM_best_97 : decode bM_best 97 = .ok (.iaload, 1) := by decide +kernel
theorem dM_best_98 : decode bM_best 98 = .ok (.lshl, 1) := by decide +kernel
theorem dM_best_99 : decode bM_best 99 = .ok (.lor, 1) := by decide +kernel
theorem dM_best_100 : decode bM_best 100 = .ok (.goto 5, 3) := by decide +kernel
theorem dM_best_103 : decode bM_best 103 = .ok (.lload 7, 2) := by decide +kernel
theorem dM_best_105 : decode bM_best 105 = .ok (.lstore 7, 2) := by decide +kernel
theorem dM_best_107 : decode bM_best 107 = .ok (.iinc 9 1, 3) := by decide +kernel
theorem dM_best_110 : decode bM_best 110 = .ok (.goto (-42), 3) := by decide +kernel
theorem dM_best_113 : decode bM_best 113 = .ok (.lload 7, 2) := by decide +kernel
theorem dM_best_115 : decode bM_best 115 = .ok (.lload 4, 2) := by decide +kernel
theorem dM_best_117 : decode bM_best 117 = .ok (.lcmp, 1) := by decide +kernel
theorem dM_best_118 : decode bM_best 118 = .ok (.ifCond .le 8, 3) := by decide +kernel
theorem dM_best_121 : decode bM_best 121 = .ok (.lload 7, 2) := by decide +kernel
theorem dM_best_123 : decode bM_best 123 = .ok (.goto 5, 3) := by decide +kernel
theorem dM_best_126 : decode bM_best 126 = .ok (.lload 4, 2) := by decide +kernel
theorem dM_best_128 : decode bM_best 128 = .ok (.lstore 4, 2) := by decide +kernel
theorem dM_best_130 : decode bM_best 130 = .ok (.iinc 6 1, 3) := by decide +kernel
theorem dM_best_133 : decode bM_best 133 = .ok (.goto (-92), 3) := by decide +kernel
theorem dM_best_136 : decode bM_best 136 = .ok (.lload 4, 2) := by decide +kernel
theorem dM_best_138 : decode bM_best 138 = .ok (.lreturn, 1) := by decide +kernel
abbrev bM_worth : ByteArray := prog_3_method_18_code
def yM_worth : MethodName := ⟨"HandTablesModel", "worth", "(I)I"⟩
theorem dM_worth_0 : decode bM_worth 0 = .ok (.aload_n 0, 1) := by decide +kernel
theorem dM_worth_1 : decode bM_worth 1 = .ok (.iload_n 1, 1) := by decide +kernel
theorem dM_worth_2 : decode bM_worth 2 = .ok (.ifCond .lt 10, 3) := by decide +kernel
theorem dM_worth_5 : decode bM_worth 5 = .ok (.iload_n 1, 1) := by decide +kernel
theorem dM_worth_6 : decode bM_worth 6 = .ok (.sipush 7462, 3) := by decide +kernel
theorem dM_worth_9 : decode bM_worth 9 = .ok (.if_icmp .lt 7, 3) := by decide +kernel
theorem dM_worth_12 : decode bM_worth 12 = .ok (.iconst 1, 1) := by decide +kernel
theorem dM_worth_13 : decode bM_worth 13 = .ok (.goto 4, 3) := by decide +kernel
theorem dM_worth_16 : decode bM_worth 16 = .ok (.iconst 0, 1) := by decide +kernel
theorem dM_worth_17 : decode bM_worth 17 = .ok (.putfield 58, 3) := by decide +kernel
theorem dM_worth_20 : decode bM_worth 20 = .ok (.aload_n 0, 1) := by decide +kernel
theorem dM_worth_21 : decode bM_worth 21 = .ok (.getfield 58, 3) := by decide +kernel
theorem dM_worth_24 : decode bM_worth 24 = .ok (.ifCond .le 5, 3) := by decide +kernel
theorem dM_worth_27 : decode bM_worth 27 = .ok (.iconst 0, 1) := by decide +kernel
theorem dM_worth_28 : decode bM_worth 28 = .ok (.ireturn, 1) := by decide +kernel
theorem dM_worth_29 : decode bM_worth 29 = .ok (.aload_n 0, 1) := by decide +kernel
theorem dM_worth_30 : decode bM_worth 30 = .ok (.getfield 7, 3) := by decide +kernel
theorem dM_worth_33 : decode bM_worth 33 = .ok (.iload_n 1, 1) := by decide +kernel
theorem dM_worth_34 : decode bM_worth 34 = .ok (.iaload, 1) := by decide +kernel
theorem dM_worth_35 : decode bM_worth 35 = .ok (.ldc 73, 2) := by decide +kernel
theorem dM_worth_37 : decode bM_worth 37 = .ok (.idiv, 1) := by decide +kernel
theorem dM_worth_38 : decode bM_worth 38 = .ok (.istore_n 2, 1) := by decide +kernel
theorem dM_worth_39 : decode bM_worth 39 = .ok (.aload_n 0, 1) := by decide +kernel
theorem dM_worth_40 : decode bM_worth 40 = .ok (.getfield 7, 3) := by decide +kernel
theorem dM_worth_43 : decode bM_worth 43 = .ok (.iload_n 1, 1) := by decide +kernel
theorem dM_worth_44 : decode bM_worth 44 = .ok (.iaload, 1) := by decide +kernel
theorem dM_worth_45 : decode bM_worth 45 = .ok (.ldc 73, 2) := by decide +kernel
theorem dM_worth_47 : decode bM_worth 47 = .ok (.irem, 1) := by decide +kernel
theorem dM_worth_48 : decode bM_worth 48 = .ok (.istore_n 3, 1) := by decide +kernel
theorem dM_worth_49 : decode bM_worth 49 = .ok (.sipush 28561, 3) := by decide +kernel
theorem dM_worth_52 : decode bM_worth 52 = .ok (.istore 4, 2) := by decide +kernel
theorem dM_worth_54 : decode bM_worth 54 = .ok (.iload_n 2, 1) := by decide +kernel
theorem dM_worth_55 : decode bM_worth 55 = .ok (.istore 5, 2) := by decide +kernel
theorem dM_worth_57 : decode bM_worth 57 = .ok (.bipush 16, 2) := by decide +kernel
theorem dM_worth_59 : decode bM_worth 59 = .ok (.istore 6, 2) := by decide +kernel
theorem dM_worth_61 : decode bM_worth 61 = .ok (.iconst 0, 1) := by decide +kernel
theorem dM_worth_62 : decode bM_worth 62 = .ok (.istore 7, 2) := by decide +kernel
theorem dM_worth_64 : decode bM_worth 64 = .ok (.iload 7, 2) := by decide +kernel
theorem dM_worth_66 : decode bM_worth 66 = .ok (.iload_n 2, 1) := by decide +kernel
theorem dM_worth_67 : decode bM_worth 67 = .ok (.invokestatic 94, 3) := by decide +kernel
theorem dM_worth_70 : decode bM_worth 70 = .ok (.if_icmp .ge 40, 3) := by decide +kernel
theorem dM_worth_73 : decode bM_worth 73 = .ok (.iload 5, 2) := by decide +kernel
theorem dM_worth_75 : decode bM_worth 75 = .ok (.iload 6, 2) := by decide +kernel
theorem dM_worth_77 : decode bM_worth 77 = .ok (.iload_n 3, 1) := by decide +kernel
theorem dM_worth_78 : decode bM_worth 78 = .ok (.iload 4, 2) := by decide +kernel
theorem dM_worth_80 : decode bM_worth 80 = .ok (.idiv, 1) := by decide +kernel
theorem dM_worth_81 : decode bM_worth 81 = .ok (.bipush 13, 2) := by decide +kernel
theorem dM_worth_83 : decode bM_worth 83 = .ok (.irem, 1) := by decide +kernel
theorem dM_worth_84 : decode bM_worth 84 = .ok (.iconst 1, 1) := by decide +kernel
theorem dM_worth_85 : decode bM_worth 85 = .ok (.iadd, 1) := by decide +kernel
theorem dM_worth_86 : decode bM_worth 86 = .ok (.imul, 1) := by decide +kernel
theorem dM_worth_87 : decode bM_worth 87 = .ok (.iadd, 1) := by decide +kernel
theorem dM_worth_88 : decode bM_worth 88 = .ok (.istore 5, 2) := by decide +kernel
theorem dM_worth_90 : decode bM_worth 90 = .ok (.iload 4, 2) := by decide +kernel
theorem dM_worth_92 : decode bM_worth 92 = .ok (.bipush 13, 2) := by decide +kernel
theorem dM_worth_94 : decode bM_worth 94 = .ok (.idiv, 1) := by decide +kernel
theorem dM_worth_95 : decode bM_worth 95 = .ok (.istore 4, 2) := by decide +kernel
theorem dM_worth_97 : decode bM_worth 97 = .ok (.iload 6, 2) := by decide +kernel
theorem dM_worth_99 : decode bM_worth 99 = .ok (.bipush 16, 2) := by decide +kernel
theorem dM_worth_101 : decode bM_worth 101 = .ok (.imul, 1) := by decide +kernel
theorem dM_worth_102 : decode bM_worth 102 = .ok (.istore 6, 2) := by decide +kernel
theorem dM_worth_104 : decode bM_worth 104 = .ok (.iinc 7 1, 3) := by decide +kernel
theorem dM_worth_107 : decode bM_worth 107 = .ok (.goto (-43), 3) := by decide +kernel
theorem dM_worth_110 : decode bM_worth 110 = .ok (.iload 5, 2) := by decide +kernel
theorem dM_worth_112 : decode bM_worth 112 = .ok (.ireturn, 1) := by decide +kernel
abbrev bM_rowSize : ByteArray := prog_3_method_17_code
def yM_rowSize : MethodName := ⟨"HandTablesModel", "rowSize", "(I)I"⟩
theorem dM_rowSize_0 : decode bM_rowSize 0 = .ok (.iload_n 0, 1) := by decide +kernel
theorem dM_rowSize_1 : decode bM_rowSize 1 = .ok (.bipush 8, 2) := by decide +kernel
theorem dM_rowSize_3 : decode bM_rowSize 3 = .ok (.if_icmp .eq 8, 3) := by decide +kernel
theorem dM_rowSize_6 : decode bM_rowSize 6 = .ok (.iload_n 0, 1) := by decide +kernel
theorem dM_rowSize_7 : decode bM_rowSize 7 = .ok (.iconst 4, 1) := by decide +kernel
theorem dM_rowSize_8 : decode bM_rowSize 8 = .ok (.if_icmp .ne 7, 3) := by decide +kernel
theorem dM_rowSize_11 : decode bM_rowSize 11 = .ok (.iconst 1, 1) := by decide +kernel
theorem dM_rowSize_12 : decode bM_rowSize 12 = .ok (.goto 43, 3) := by decide +kernel
theorem dM_rowSize_15 : decode bM_rowSize 15 = .ok (.iload_n 0, 1) := by decide +kernel
theorem dM_rowSize_16 : decode bM_rowSize 16 = .ok (.bipush 7, 2) := by decide +kernel
theorem dM_rowSize_18 : decode bM_rowSize 18 = .ok (.if_icmp .eq 9, 3) := by decide +kernel
theorem dM_rowSize_21 : decode bM_rowSize 21 = .ok (.iload_n 0, 1) := by decide +kernel
theorem dM_rowSize_22 : decode bM_rowSize 22 = .ok (.bipush 6, 2) := by decide +kernel
theorem dM_rowSize_24 : decode bM_rowSize 24 = .ok (.if_icmp .ne 7, 3) := by decide +kernel
theorem dM_rowSize_27 : decode bM_rowSize 27 = .ok (.iconst 2, 1) := by decide +kernel
theorem dM_rowSize_28 : decode bM_rowSize 28 = .ok (.goto 27, 3) := by decide +kernel
theorem dM_rowSize_31 : decode bM_rowSize 31 = .ok (.iload_n 0, 1) := by decide +kernel
theorem dM_rowSize_32 : decode bM_rowSize 32 = .ok (.iconst 3, 1) := by decide +kernel
theorem dM_rowSize_33 : decode bM_rowSize 33 = .ok (.if_icmp .eq 8, 3) := by decide +kernel
theorem dM_rowSize_36 : decode bM_rowSize 36 = .ok (.iload_n 0, 1) := by decide +kernel
theorem dM_rowSize_37 : decode bM_rowSize 37 = .ok (.iconst 2, 1) := by decide +kernel
theorem dM_rowSize_38 : decode bM_rowSize 38 = .ok (.if_icmp .ne 7, 3) := by decide +kernel
theorem dM_rowSize_41 : decode bM_rowSize 41 = .ok (.iconst 3, 1) := by decide +kernel
theorem dM_rowSize_42 : decode bM_rowSize 42 = .ok (.goto 13, 3) := by decide +kernel
theorem dM_rowSize_45 : decode bM_rowSize 45 = .ok (.iload_n 0, 1) := by decide +kernel
theorem dM_rowSize_46 : decode bM_rowSize 46 = .ok (.iconst 1, 1) := by decide +kernel
theorem dM_rowSize_47 : decode bM_rowSize 47 = .ok (.if_icmp .ne 7, 3) := by decide +kernel
theorem dM_rowSize_50 : decode bM_rowSize 50 = .ok (.iconst 4, 1) := by decide +kernel
theorem dM_rowSize_51 : decode bM_rowSize 51 = .ok (.goto 4, 3) := by decide +kernel
theorem dM_rowSize_54 : decode bM_rowSize 54 = .ok (.iconst 5, 1) := by decide +kernel
theorem dM_rowSize_55 : decode bM_rowSize 55 = .ok (.ireturn, 1) := by decide +kernel
abbrev bM_sets : ByteArray := prog_3_method_19_code
def yM_sets : MethodName := ⟨"HandTablesModel", "sets", "(I)I"⟩
theorem dM_sets_0 : decode bM_sets 0 = .ok (.aload_n 0, 1) := by decide +kernel
theorem dM_sets_1 : decode bM_sets 1 = .ok (.iload_n 1, 1) := by decide +kernel
theorem dM_sets_2 : decode bM_sets 2 = .ok (.ifCond .lt 10, 3) := by decide +kernel
theorem dM_sets_5 : decode bM_sets 5 = .ok (.iload_n 1, 1) := by decide +kernel
theorem dM_sets_6 : decode bM_sets 6 = .ok (.sipush 7462, 3) := by decide +kernel
theorem dM_sets_9 : decode bM_sets 9 = .ok (.if_icmp .lt 7, 3) := by decide +kernel
theorem dM_sets_12 : decode bM_sets 12 = .ok (.iconst 1, 1) := by decide +kernel
theorem dM_sets_13 : decode bM_sets 13 = .ok (.goto 4, 3) := by decide +kernel
theorem dM_sets_16 : decode bM_sets 16 = .ok (.iconst 0, 1) := by decide +kernel
theorem dM_sets_17 : decode bM_sets 17 = .ok (.putfield 58, 3) := by decide +kernel
theorem dM_sets_20 : decode bM_sets 20 = .ok (.aload_n 0, 1) := by decide +kernel
theorem dM_sets_21 : decode bM_sets 21 = .ok (.getfield 58, 3) := by decide +kernel
theorem dM_sets_24 : decode bM_sets 24 = .ok (.ifCond .le 5, 3) := by decide +kernel
theorem dM_sets_27 : decode bM_sets 27 = .ok (.iconst 0, 1) := by decide +kernel
theorem dM_sets_28 : decode bM_sets 28 = .ok (.ireturn, 1) := by decide +kernel
theorem dM_sets_29 : decode bM_sets 29 = .ok (.aload_n 0, 1) := by decide +kernel
theorem dM_sets_30 : decode bM_sets 30 = .ok (.getfield 7, 3) := by decide +kernel
theorem dM_sets_33 : decode bM_sets 33 = .ok (.iload_n 1, 1) := by decide +kernel
theorem dM_sets_34 : decode bM_sets 34 = .ok (.iaload, 1) := by decide +kernel
theorem dM_sets_35 : decode bM_sets 35 = .ok (.ldc 73, 2) := by decide +kernel
theorem dM_sets_37 : decode bM_sets 37 = .ok (.idiv, 1) := by decide +kernel
theorem dM_sets_38 : decode bM_sets 38 = .ok (.istore_n 2, 1) := by decide +kernel
theorem dM_sets_39 : decode bM_sets 39 = .ok (.iload_n 2, 1) := by decide +kernel
theorem dM_sets_40 : decode bM_sets 40 = .ok (.tableswitch 70 0 8 #[59, 70, 66, 63, 59, 52, 56, 54, 52], 52) := by decide +kernel
theorem dM_sets_92 : decode bM_sets 92 = .ok (.iconst 4, 1) := by decide +kernel
theorem dM_sets_93 : decode bM_sets 93 = .ok (.ireturn, 1) := by decide +kernel
theorem dM_sets_94 : decode bM_sets 94 = .ok (.iconst 4, 1) := by decide +kernel
theorem dM_sets_95 : decode bM_sets 95 = .ok (.ireturn, 1) := by decide +kernel
theorem dM_sets_96 : decode bM_sets 96 = .ok (.bipush 24, 2) := by decide +kernel
theorem dM_sets_98 : decode bM_sets 98 = .ok (.ireturn, 1) := by decide +kernel
theorem dM_sets_99 : decode bM_sets 99 = .ok (.sipush 1020, 3) := by decide +kernel
theorem dM_sets_102 : decode bM_sets 102 = .ok (.ireturn, 1) := by decide +kernel
theorem dM_sets_103 : decode bM_sets 103 = .ok (.bipush 64, 2) := by decide +kernel
theorem dM_sets_105 : decode bM_sets 105 = .ok (.ireturn, 1) := by decide +kernel
theorem dM_sets_106 : decode bM_sets 106 = .ok (.sipush 144, 3) := by decide +kernel
theorem dM_sets_109 : decode bM_sets 109 = .ok (.ireturn, 1) := by decide +kernel
theorem dM_sets_110 : decode bM_sets 110 = .ok (.sipush 384, 3) := by decide +kernel
theorem dM_sets_113 : decode bM_sets 113 = .ok (.ireturn, 1) := by decide +kernel
abbrev bM_first : ByteArray := prog_3_method_20_code
def yM_first : MethodName := ⟨"HandTablesModel", "first", "(I)I"⟩
theorem dM_first_0 : decode bM_first 0 = .ok (.aload_n 0, 1) := by decide +kernel
theorem dM_first_1 : decode bM_first 1 = .ok (.iload_n 1, 1) := by decide +kernel
theorem dM_first_2 : decode bM_first 2 = .ok (.ifCond .lt 9, 3) := by decide +kernel
theorem dM_first_5 : decode bM_first 5 = .ok (.iload_n 1, 1) := by decide +kernel
theorem dM_first_6 : decode bM_first 6 = .ok (.bipush 9, 2) := by decide +kernel
theorem dM_first_8 : decode bM_first 8 = .ok (.if_icmp .le 7, 3) := by decide +kernel
theorem dM_first_11 : decode bM_first 11 = .ok (.iconst 1, 1) := by decide +kernel
theorem dM_first_12 : decode bM_first 12 = .ok (.goto 4, 3) := by decide +kernel
theorem dM_first_15 : decode bM_first 15 = .ok (.iconst 0, 1) := by decide +kernel
theorem dM_first_16 : decode bM_first 16 = .ok (.putfield 58, 3) := by decide +kernel
theorem dM_first_19 : decode bM_first 19 = .ok (.aload_n 0, 1) := by decide +kernel
theorem dM_first_20 : decode bM_first 20 = .ok (.getfield 58, 3) := by decide +kernel
theorem dM_first_23 : decode bM_first 23 = .ok (.ifCond .le 7, 3) := by decide +kernel
theorem dM_first_26 : decode bM_first 26 = .ok (.iconst 0, 1) := by decide +kernel
theorem dM_first_27 : decode bM_first 27 = .ok (.goto 11, 3) := by decide +kernel
theorem dM_first_30 : decode bM_first 30 = .ok (.aload_n 0, 1) := by decide +kernel
theorem dM_first_31 : decode bM_first 31 = .ok (.iload_n 1, 1) := by decide +kernel
theorem dM_first_32 : decode bM_first 32 = .ok (.ldc 73, 2) := by decide +kernel
theorem dM_first_34 : decode bM_first 34 = .ok (.imul, 1) := by decide +kernel
theorem dM_first_35 : decode bM_first 35 = .ok (.invokevirtual 91, 3) := by decide +kernel
theorem dM_first_38 : decode bM_first 38 = .ok (.ireturn, 1) := by decide +kernel
abbrev bM_seat : ByteArray := prog_3_method_24_code
def yM_seat : MethodName := ⟨"HandTablesModel", "seat", "(III)Z"⟩
theorem dM_seat_0 : decode bM_seat 0 = .ok (.aload_n 0, 1) := by decide +kernel
theorem dM_seat_1 : decode bM_seat 1 = .ok (.iload_n 1, 1) := by decide +kernel
theorem dM_seat_2 : decode bM_seat 2 = .ok (.invokestatic 100, 3) := by decide +kernel
theorem dM_seat_5 : decode bM_seat 5 = .ok (.ifCond .eq 7, 3) := by decide +kernel
theorem dM_seat_8 : decode bM_seat 8 = .ok (.iconst 1, 1) := by decide +kernel
theorem dM_seat_9 : decode bM_seat 9 = .ok (.goto 22, 3) := by decide +kernel
theorem dM_seat_12 : decode bM_seat 12 = .ok (.iload_n 2, 1) := by decide +kernel
theorem dM_seat_13 : decode bM_seat 13 = .ok (.invokestatic 104, 3) := by decide +kernel
theorem dM_seat_16 : decode bM_seat 16 = .ok (.ifCond .ne 10, 3) := by decide +kernel
theorem dM_seat_19 : decode bM_seat 19 = .ok (.iload_n 3, 1) := by decide +kernel
theorem dM_seat_20 : decode bM_seat 20 = .ok (.invokestatic 104, 3) := by decide +kernel
theorem dM_seat_23 : decode bM_seat 23 = .ok (.ifCond .eq 7, 3) := by decide +kernel
theorem dM_seat_26 : decode bM_seat 26 = .ok (.iconst 2, 1) := by decide +kernel
theorem dM_seat_27 : decode bM_seat 27 = .ok (.goto 4, 3) := by decide +kernel
theorem dM_seat_30 : decode bM_seat 30 = .ok (.iconst 0, 1) := by decide +kernel
theorem dM_seat_31 : decode bM_seat 31 = .ok (.putfield 58, 3) := by decide +kernel
theorem dM_seat_34 : decode bM_seat 34 = .ok (.aload_n 0, 1) := by decide +kernel
theorem dM_seat_35 : decode bM_seat 35 = .ok (.getfield 58, 3) := by decide +kernel
theorem dM_seat_38 : decode bM_seat 38 = .ok (.ifCond .gt 26, 3) := by decide +kernel
theorem dM_seat_41 : decode bM_seat 41 = .ok (.iload_n 2, 1) := by decide +kernel
theorem dM_seat_42 : decode bM_seat 42 = .ok (.iload_n 3, 1) := by decide +kernel
theorem dM_seat_43 : decode bM_seat 43 = .ok (.if_icmp .eq 21, 3) := by decide +kernel
theorem dM_seat_46 : decode bM_seat 46 = .ok (.aload_n 0, 1) := by decide +kernel
theorem dM_seat_47 : decode bM_seat 47 = .ok (.iload_n 2, 1) := by decide +kernel
theorem dM_seat_48 : decode bM_seat 48 = .ok (.iload_n 1, 1) := by decide +kernel
theorem dM_seat_49 : decode bM_seat 49 = .ok (.invokevirtual 107, 3) := by decide +kernel
theorem dM_seat_52 : decode bM_seat 52 = .ok (.ifCond .ne 12, 3) := by decide +kernel
theorem dM_seat_55 : decode bM_seat 55 = .ok (.aload_n 0, 1) := by decide +kernel
theorem dM_seat_56 : decode bM_seat 56 = .ok (.iload_n 3, 1) := by decide +kernel
theorem dM_seat_57 : decode bM_seat 57 = .ok (.iload_n 1, 1) := by decide +kernel
theorem dM_seat_58 : decode bM_seat 58 = .ok (.invokevirtual 107, 3) := by decide +kernel
theorem dM_seat_61 : decode bM_seat 61 = .ok (.ifCond .eq 5, 3) := by decide +kernel
theorem dM_seat_64 : decode bM_seat 64 = .ok (.iconst 0, 1) := by decide +kernel
theorem dM_seat_65 : decode bM_seat 65 = .ok (.ireturn, 1) := by decide +kernel
theorem dM_seat_66 : decode bM_seat 66 = .ok (.aload_n 0, 1) := by decide +kernel
theorem dM_seat_67 : decode bM_seat 67 = .ok (.getfield 22, 3) := by decide +kernel
theorem dM_seat_70 : decode bM_seat 70 = .ok (.iconst 2, 1) := by decide +kernel
theorem dM_seat_71 : decode bM_seat 71 = .ok (.iload_n 1, 1) := by decide +kernel
theorem dM_seat_72 : decode bM_seat 72 = .ok (.imul, 1) := by decide +kernel
theorem dM_seat_73 : decode bM_seat 73 = .ok (.iload_n 2, 1) := by decide +kernel
theorem dM_seat_74 : decode bM_seat 74 = .ok (.iastore, 1) := by decide +kernel
theorem dM_seat_75 : decode bM_seat 75 = .ok (.aload_n 0, 1) := by decide +kernel
theorem dM_seat_76 : decode bM_seat 76 = .ok (.getfield 22, 3) := by decide +kernel
theorem dM_seat_79 : decode bM_seat 79 = .ok (.iconst 2, 1) := by decide +kernel
theorem dM_seat_80 : decode bM_seat 80 = .ok (.iload_n 1, 1) := by decide +kernel
theorem dM_seat_81 : decode bM_seat 81 = .ok (.imul, 1) := by decide +kernel
theorem dM_seat_82 : decode bM_seat 82 = .ok (.iconst 1, 1) := by decide +kernel
theorem dM_seat_83 : decode bM_seat 83 = .ok (.iadd, 1) := by decide +kernel
theorem dM_seat_84 : decode bM_seat 84 = .ok (.iload_n 3, 1) := by decide +kernel
theorem dM_seat_85 : decode bM_seat 85 = .ok (.iastore, 1) := by decide +kernel
theorem dM_seat_86 : decode bM_seat 86 = .ok (.aload_n 0, 1) := by decide +kernel
theorem dM_seat_87 : decode bM_seat 87 = .ok (.iconst 0, 1) := by decide +kernel
theorem dM_seat_88 : decode bM_seat 88 = .ok (.putfield 111, 3) := by decide +kernel
theorem dM_seat_91 : decode bM_seat 91 = .ok (.iconst 1, 1) := by decide +kernel
theorem dM_seat_92 : decode bM_seat 92 = .ok (.ireturn, 1) := by decide +kernel
abbrev bM_noSeat : ByteArray := prog_3_method_22_code
def yM_noSeat : MethodName := ⟨"HandTablesModel", "noSeat", "(I)Z"⟩
theorem dM_noSeat_0 : decode bM_noSeat 0 = .ok (.iload_n 0, 1) := by decide +kernel
theorem dM_noSeat_1 : decode bM_noSeat 1 = .ok (.ifCond .lt 8, 3) := by decide +kernel
theorem dM_noSeat_4 : decode bM_noSeat 4 = .ok (.iload_n 0, 1) := by decide +kernel
theorem dM_noSeat_5 : decode bM_noSeat 5 = .ok (.iconst 5, 1) := by decide +kernel
theorem dM_noSeat_6 : decode bM_noSeat 6 = .ok (.if_icmp .le 7, 3) := by decide +kernel
theorem dM_noSeat_9 : decode bM_noSeat 9 = .ok (.iconst 1, 1) := by decide +kernel
theorem dM_noSeat_10 : decode bM_noSeat 10 = .ok (.goto 4, 3) := by decide +kernel
theorem dM_noSeat_13 : decode bM_noSeat 13 = .ok (.iconst 0, 1) := by decide +kernel
theorem dM_noSeat_14 : decode bM_noSeat 14 = .ok (.ireturn, 1) := by decide +kernel
abbrev bM_noCard : ByteArray := prog_3_method_21_code
def yM_noCard : MethodName := ⟨"HandTablesModel", "noCard", "(I)Z"⟩
theorem dM_noCard_0 : decode bM_noCard 0 = .ok (.iload_n 0, 1) := by decide +kernel
theorem dM_noCard_1 : decode bM_noCard 1 = .ok (.ifCond .lt 9, 3) := by decide +kernel
theorem dM_noCard_4 : decode bM_noCard 4 = .ok (.iload_n 0, 1) := by decide +kernel
theorem dM_noCard_5 : decode bM_noCard 5 = .ok (.bipush 51, 2) := by decide +kernel
theorem dM_noCard_7 : decode bM_noCard 7 = .ok (.if_icmp .le 7, 3) := by decide +kernel
theorem dM_noCard_10 : decode bM_noCard 10 = .ok (.iconst 1, 1) := by decide +kernel
theorem dM_noCard_11 : decode bM_noCard 11 = .ok (.goto 4, 3) := by decide +kernel
theorem dM_noCard_14 : decode bM_noCard 14 = .ok (.iconst 0, 1) := by decide +kernel
theorem dM_noCard_15 : decode bM_noCard 15 = .ok (.ireturn, 1) := by decide +kernel
abbrev bM_stands : ByteArray := prog_3_method_23_code
def yM_stands : MethodName := ⟨"HandTablesModel", "stands", "(II)Z"⟩
theorem dM_stands_0 : decode bM_stands 0 = .ok (.iconst 0, 1) := by decide +kernel
theorem dM_stands_1 : decode bM_stands 1 = .ok (.istore_n 3, 1) := by decide +kernel
theorem dM_stands_2 : decode bM_stands 2 = .ok (.iload_n 3, 1) := by decide +kernel
theorem dM_stands_3 : decode bM_stands 3 = .ok (.bipush 12, 2) := by decide +kernel
theorem dM_stands_5 : decode bM_stands 5 = .ok (.if_icmp .ge 28, 3) := by decide +kernel
theorem dM_stands_8 : decode bM_stands 8 = .ok (.aload_n 0, 1) := by decide +kernel
theorem dM_stands_9 : decode bM_stands 9 = .ok (.getfield 22, 3) := by decide +kernel
theorem dM_stands_12 : decode bM_stands 12 = .ok (.iload_n 3, 1) := by decide +kernel
theorem dM_stands_13 : decode bM_stands 13 = .ok (.iaload, 1) := by decide +kernel
theorem dM_stands_14 : decode bM_stands 14 = .ok (.iload_n 1, 1) := by decide +kernel
theorem dM_stands_15 : decode bM_stands 15 = .ok (.if_icmp .ne 12, 3) := by decide +kernel
theorem dM_stands_18 : decode bM_stands 18 = .ok (.iload_n 3, 1) := by decide +kernel
theorem dM_stands_19 : decode bM_stands 19 = .ok (.iconst 2, 1) := by decide +kernel
theorem dM_stands_20 : decode bM_stands 20 = .ok (.idiv, 1) := by decide +kernel
theorem dM_stands_21 : decode bM_stands 21 = .ok (.iload_n 2, 1) := by decide +kernel
theorem dM_stands_22 : decode bM_stands 22 = .ok (.if_icmp .eq 5, 3) := by decide +kernel
theorem dM_stands_25 : decode bM_stands 25 = .ok (.iconst 1, 1) := by decide +kernel
theorem dM_stands_26 : decode bM_stands 26 = .ok (.ireturn, 1) := by decide +kernel
theorem dM_stands_27 : decode bM_stands 27 = .ok (.iinc 3 1, 3) := by decide +kernel
theorem dM_stands_30 : decode bM_stands 30 = .ok (.goto (-28), 3) := by decide +kernel
theorem dM_stands_33 : decode bM_stands 33 = .ok (.iconst 0, 1) := by decide +kernel
theorem dM_stands_34 : decode bM_stands 34 = .ok (.istore_n 3, 1) := by decide +kernel
theorem dM_stands_35 : decode bM_stands 35 = .ok (.iload_n 3, 1) := by decide +kernel
theorem dM_stands_36 : decode bM_stands 36 = .ok (.aload_n 0, 1) := by decide +kernel
theorem dM_stands_37 : decode bM_stands 37 = .ok (.getfield 97, 3) := by decide +kernel
theorem dM_stands_40 : decode bM_stands 40 = .ok (.if_icmp .ge 21, 3) := by decide +kernel
theorem dM_stands_43 : decode bM_stands 43 = .ok (.aload_n 0, 1) := by decide +kernel
theorem dM_stands_44 : decode bM_stands 44 = .ok (.getfield 25, 3) := by decide +kernel
theorem dM_stands_47 : decode bM_stands 47 = .ok (.iload_n 3, 1) := by decide +kernel
theorem dM_stands_48 : decode bM_stands 48 = .ok (.iaload, 1) := by decide +kernel
theorem dM_stands_49 : decode bM_stands 49 = .ok (.iload_n 1, 1) := by decide +kernel
theorem dM_stands_50 : decode bM_stands 50 = .ok (.if_icmp .ne 5, 3) := by decide +kernel
theorem dM_stands_53 : decode bM_stands 53 = .ok (.iconst 1, 1) := by decide +kernel
theorem dM_stands_54 : decode bM_stands 54 = .ok (.ireturn, 1) := by decide +kernel
theorem dM_stands_55 : decode bM_stands 55 = .ok (.iinc 3 1, 3) := by decide +kernel
theorem dM_stands_58 : decode bM_stands 58 = .ok (.goto (-23), 3) := by decide +kernel
theorem dM_stands_61 : decode bM_stands 61 = .ok (.iconst 0, 1) := by decide +kernel
theorem dM_stands_62 : decode bM_stands 62 = .ok (.ireturn, 1) := by decide +kernel
abbrev bM_leave : ByteArray := prog_3_method_25_code
def yM_leave : MethodName := ⟨"HandTablesModel", "leave", "(I)Z"⟩
theorem dM_leave_0 : decode bM_leave 0 = .ok (.aload_n 0, 1) := by decide +kernel
theorem dM_leave_1 : decode bM_leave 1 = .ok (.iload_n 1, 1) := by decide +kernel
theorem dM_leave_2 : decode bM_leave 2 = .ok (.invokestatic 100, 3) := by decide +kernel
theorem dM_leave_5 : decode bM_leave 5 = .ok (.ifCond .eq 7, 3) := by decide +kernel
theorem dM_leave_8 : decode bM_leave 8 = .ok (.iconst 1, 1) := by decide +kernel
theorem dM_leave_9 : decode bM_leave 9 = .ok (.goto 4, 3) := by decide +kernel
theorem dM_leave_12 : decode bM_leave 12 = .ok (.iconst 0, 1) := by decide +kernel
theorem dM_leave_13 : decode bM_leave 13 = .ok (.putfield 58, 3) := by decide +kernel
theorem dM_leave_16 : decode bM_leave 16 = .ok (.aload_n 0, 1) := by decide +kernel
theorem dM_leave_17 : decode bM_leave 17 = .ok (.getfield 58, 3) := by decide +kernel
theorem dM_leave_20 : decode bM_leave 20 = .ok (.ifCond .gt 15, 3) := by decide +kernel
theorem dM_leave_23 : decode bM_leave 23 = .ok (.aload_n 0, 1) := by decide +kernel
theorem dM_leave_24 : decode bM_leave 24 = .ok (.getfield 22, 3) := by decide +kernel
theorem dM_leave_27 : decode bM_leave 27 = .ok (.iconst 2, 1) := by decide +kernel
theorem dM_leave_28 : decode bM_leave 28 = .ok (.iload_n 1, 1) := by decide +kernel
theorem dM_leave_29 : decode bM_leave 29 = .ok (.imul, 1) := by decide +kernel
theorem dM_leave_30 : decode bM_leave 30 = .ok (.iaload, 1) := by decide +kernel
theorem dM_leave_31 : decode bM_leave 31 = .ok (.iconst (-1), 1) := by decide +kernel
theorem dM_leave_32 : decode bM_leave 32 = .ok (.if_icmp .ne 5, 3) := by decide +kernel
theorem dM_leave_35 : decode bM_leave 35 = .ok (.iconst 0, 1) := by decide +kernel
theorem dM_leave_36 : decode bM_leave 36 = .ok (.ireturn, 1) := by decide +kernel
theorem dM_leave_37 : decode bM_leave 37 = .ok (.aload_n 0, 1) := by decide +kernel
theorem dM_leave_38 : decode bM_leave 38 = .ok (.getfield 22, 3) := by decide +kernel
theorem dM_leave_41 : decode bM_leave 41 = .ok (.iconst 2, 1) := by decide +kernel
theorem dM_leave_42 : decode bM_leave 42 = .ok (.iload_n 1, 1) := by decide +kernel
theorem dM_leave_43 : decode bM_leave 43 = .ok (.imul, 1) := by decide +kernel
theorem dM_leave_44 : decode bM_leave 44 = .ok (.iconst (-1), 1) := by decide +kernel
theorem dM_leave_45 : decode bM_leave 45 = .ok (.iastore, 1) := by decide +kernel
theorem dM_leave_46 : decode bM_leave 46 = .ok (.aload_n 0, 1) := by decide +kernel
theorem dM_leave_47 : decode bM_leave 47 = .ok (.getfield 22, 3) := by decide +kernel
theorem dM_leave_50 : decode bM_leave 50 = .ok (.iconst 2, 1) := by decide +kernel
theorem dM_leave_51 : decode bM_leave 51 = .ok (.iload_n 1, 1) := by decide +kernel
theorem dM_leave_52 : decode bM_leave 52 = .ok (.imul, 1) := by decide +kernel
theorem dM_leave_53 : decode bM_leave 53 = .ok (.iconst 1, 1) := by decide +kernel
theorem dM_leave_54 : decode bM_leave 54 = .ok (.iadd, 1) := by decide +kernel
theorem dM_leave_55 : decode bM_leave 55 = .ok (.iconst (-1), 1) := by decide +kernel
theorem dM_leave_56 : decode bM_leave 56 = .ok (.iastore, 1) := by decide +kernel
theorem dM_leave_57 : decode bM_leave 57 = .ok (.aload_n 0, 1) := by decide +kernel
theorem dM_leave_58 : decode bM_leave 58 = .ok (.iconst 0, 1) := by decide +kernel
theorem dM_leave_59 : decode bM_leave 59 = .ok (.putfield 111, 3) := by decide +kernel
theorem dM_leave_62 : decode bM_leave 62 = .ok (.iconst 1, 1) := by decide +kernel
theorem dM_leave_63 : decode bM_leave 63 = .ok (.ireturn, 1) := by decide +kernel
abbrev bM_board : ByteArray := prog_3_method_26_code
def yM_board : MethodName := ⟨"HandTablesModel", "board", "(I)I"⟩
theorem dM_board_0 : decode bM_board 0 = .ok (.aload_n 0, 1) := by decide +kernel
theorem dM_board_1 : decode bM_board 1 = .ok (.iload_n 1, 1) := by decide +kernel
theorem dM_board_2 : decode bM_board 2 = .ok (.invokestatic 104, 3) := by decide +kernel
theorem dM_board_5 : decode bM_board 5 = .ok (.ifCond .eq 7, 3) := by decide +kernel
theorem dM_board_8 : decode bM_board 8 = .ok (.iconst 1, 1) := by decide +kernel
theorem dM_board_9 : decode bM_board 9 = .ok (.goto 4, 3) := by decide +kernel
theorem dM_board_12 : decode bM_board 12 = .ok (.iconst 0, 1) := by decide +kernel
theorem dM_board_13 : decode bM_board 13 = .ok (.putfield 58, 3) := by decide +kernel
theorem dM_board_16 : decode bM_board 16 = .ok (.aload_n 0, 1) := by decide +kernel
theorem dM_board_17 : decode bM_board 17 = .ok (.getfield 58, 3) := by decide +kernel
theorem dM_board_20 : decode bM_board 20 = .ok (.ifCond .le 5, 3) := by decide +kernel
theorem dM_board_23 : decode bM_board 23 = .ok (.iconst 0, 1) := by decide +kernel
theorem dM_board_24 : decode bM_board 24 = .ok (.ireturn, 1) := by decide +kernel
theorem dM_board_25 : decode bM_board 25 = .ok (.aload_n 0, 1) := by decide +kernel
theorem dM_board_26 : decode bM_board 26 = .ok (.getfield 97, 3) := by decide +kernel
theorem dM_board_29 : decode bM_board 29 = .ok (.iconst 5, 1) := by decide +kernel
theorem dM_board_30 : decode bM_board 30 = .ok (.if_icmp .eq 12, 3) := by decide +kernel
theorem dM_board_33 : decode bM_board 33 = .ok (.aload_n 0, 1) := by decide +kernel
theorem dM_board_34 : decode bM_board 34 = .ok (.iload_n 1, 1) := by decide +kernel
theorem dM_board_35 : decode bM_board 35 = .ok (.iconst (-1), 1) := by decide +kernel
theorem dM_board_36 : decode bM_board 36 = .ok (.invokevirtual 107, 3) := by decide +kernel
theorem dM_board_39 : decode bM_board 39 = .ok (.ifCond .eq 5, 3) := by decide +kernel
theorem dM_board_42 : decode bM_board 42 = .ok (.iconst (-1), 1) := by decide +kernel
theorem dM_board_43 : decode bM_board 43 = .ok (.ireturn, 1) := by decide +kernel
theorem dM_board_44 : decode bM_board 44 = .ok (.aload_n 0, 1) := by decide +kernel
theorem dM_board_45 : decode bM_board 45 = .ok (.getfield 25, 3) := by decide +kernel
theorem dM_board_48 : decode bM_board 48 = .ok (.aload_n 0, 1) := by decide +kernel
theorem dM_board_49 : decode bM_board 49 = .ok (.getfield 97, 3) := by decide +kernel
theorem dM_board_52 : decode bM_board 52 = .ok (.iload_n 1, 1) := by decide +kernel
theorem dM_board_53 : decode bM_board 53 = .ok (.iastore, 1) := by decide +kernel
theorem dM_board_54 : decode bM_board 54 = .ok (.aload_n 0, 1) := by decide +kernel
theorem dM_board_55 : decode bM_board 55 = .ok (.dup, 1) := by decide +kernel
theorem dM_board_56 : decode bM_board 56 = .ok (.getfield 97, 3) := by decide +kernel
theorem dM_board_59 : decode bM_board 59 = .ok (.iconst 1, 1) := by decide +kernel
theorem dM_board_60 : decode bM_board 60 = .ok (.iadd, 1) := by decide +kernel
theorem dM_board_61 : decode bM_board 61 = .ok (.putfield 97, 3) := by decide +kernel
theorem dM_board_64 : decode bM_board 64 = .ok (.aload_n 0, 1) := by decide +kernel
theorem dM_board_65 : decode bM_board 65 = .ok (.iconst 0, 1) := by decide +kernel
theorem dM_board_66 : decode bM_board 66 = .ok (.putfield 111, 3) := by decide +kernel
theorem dM_board_69 : decode bM_board 69 = .ok (.aload_n 0, 1) := by decide +kernel
theorem dM_board_70 : decode bM_board 70 = .ok (.getfield 97, 3) := by decide +kernel
theorem dM_board_73 : decode bM_board 73 = .ok (.ireturn, 1) := by decide +kernel
abbrev bM_clear : ByteArray := prog_3_method_27_code
def yM_clear : MethodName := ⟨"HandTablesModel", "clear", "()I"⟩
theorem dM_clear_0 : decode bM_clear 0 = .ok (.aload_n 0, 1) := by decide +kernel
theorem dM_clear_1 : decode bM_clear 1 = .ok (.iconst 0, 1) := by decide +kernel
theorem dM_clear_2 : decode bM_clear 2 = .ok (.putfield 58, 3) := by decide +kernel
theorem dM_clear_5 : decode bM_clear 5 = .ok (.aload_n 0, 1) := by decide +kernel
theorem dM_clear_6 : decode bM_clear 6 = .ok (.getfield 97, 3) := by decide +kernel
theorem dM_clear_9 : decode bM_clear 9 = .ok (.istore_n 1, 1) := by decide +kernel
theorem dM_clear_10 : decode bM_clear 10 = .ok (.aload_n 0, 1) := by decide +kernel
theorem dM_clear_11 : decode bM_clear 11 = .ok (.iconst 0, 1) := by decide +kernel
theorem dM_clear_12 : decode bM_clear 12 = .ok (.putfield 97, 3) := by decide +kernel
theorem dM_clear_15 : decode bM_clear 15 = .ok (.aload_n 0, 1) := by decide +kernel
theorem dM_clear_16 : decode bM_clear 16 = .ok (.iconst 0, 1) := by decide +kernel
theorem dM_clear_17 : decode bM_clear 17 = .ok (.putfield 111, 3) := by decide +kernel
theorem dM_clear_20 : decode bM_clear 20 = .ok (.iload_n 1, 1) := by decide +kernel
theorem dM_clear_21 : decode bM_clear 21 = .ok (.ireturn, 1) := by decide +kernel
abbrev bM_cards : ByteArray := prog_3_method_28_code
def yM_cards : MethodName := ⟨"HandTablesModel", "cards", "(I)J"⟩
theorem dM_cards_0 : decode bM_cards 0 = .ok (.aload_n 0, 1) := by decide +kernel
theorem dM_cards_1 : decode bM_cards 1 = .ok (.iload_n 1, 1) := by decide +kernel
theorem dM_cards_2 : decode bM_cards 2 = .ok (.bipush 6, 2) := by decide +kernel
theorem dM_cards_4 : decode bM_cards 4 = .ok (.if_icmp .eq 10, 3) := by decide +kernel
theorem dM_cards_7 : decode bM_cards 7 = .ok (.iload_n 1, 1) := by decide +kernel
theorem dM_cards_8 : decode bM_cards 8 = .ok (.invokestatic 100, 3) := by decide +kernel
theorem dM_cards_11 : decode bM_cards 11 = .ok (.ifCond .ne 7, 3) := by decide +kernel
theorem dM_cards_14 : decode bM_cards 14 = .ok (.iconst 0, 1) := by decide +kernel
theorem dM_cards_15 : decode bM_cards 15 = .ok (.goto 4, 3) := by decide +kernel
theorem dM_cards_18 : decode bM_cards 18 = .ok (.iconst 1, 1) := by decide +kernel
theorem dM_cards_19 : decode bM_cards 19 = .ok (.putfield 58, 3) := by decide +kernel
theorem dM_cards_22 : decode bM_cards 22 = .ok (.aload_n 0, 1) := by decide +kernel
theorem dM_cards_23 : decode bM_cards 23 = .ok (.getfield 58, 3) := by decide +kernel
theorem dM_cards_26 : decode bM_cards 26 = .ok (.ifCond .le 5, 3) := by decide +kernel
theorem dM_cards_29 : decode bM_cards 29 = .ok (.lconst 0, 1) := by decide +kernel
theorem dM_cards_30 : decode bM_cards 30 = .ok (.lreturn, 1) := by decide +kernel
theorem dM_cards_31 : decode bM_cards 31 = .ok (.lconst 0, 1) := by decide +kernel
theorem dM_cards_32 : decode bM_cards 32 = .ok (.lstore_n 2, 1) := by decide +kernel
theorem dM_cards_33 : decode bM_cards 33 = .ok (.iconst 0, 1) := by decide +kernel
theorem dM_cards_34 : decode bM_cards 34 = .ok (.istore 4, 2) := by decide +kernel
theorem dM_cards_36 : decode bM_cards 36 = .ok (.iload 4, 2) := by decide +kernel
theorem dM_cards_38 : decode bM_cards 38 = .ok (.aload_n 0, 1) := by decide +kernel
theorem dM_cards_39 : decode bM_cards 39 = .ok (.getfield 97, 3) := by decide +kernel
theorem dM_cards_42 : decode bM_cards 42 = .ok (.if_icmp .ge 27, 3) := by decide +kernel
theorem dM_cards_45 : decode bM_cards 45 = .ok (.iload_n 1, 1) := by decide +kernel
theorem dM_cards_46 : decode bM_cards 46 = .ok (.bipush 6, 2) := by decide +kernel
theorem dM_cards_48 : decode bM_cards 48 = .ok (.if_icmp .ne 21, 3) := by decide +kernel
theorem dM_cards_51 : decode bM_cards 51 = .ok (.lload_n 2, 1) := by decide +kernel
theorem dM_cards_52 : decode bM_cards 52 = .ok (.lconst 1, 1) := by decide +kernel
theorem dM_cards_53 : decode bM_cards 53 = .ok (.aload_n 0, 1) := by decide +kernel
theorem dM_cards_54 : decode bM_cards 54 = .ok (.getfield 25, 3) := by decide +kernel
theorem dM_cards_57 : decode bM_cards 57 = .ok (.iload 4, 2) := by decide +kernel
theorem dM_cards_59 : decode bM_cards 59 = .ok (.iaload, 1) := by decide +kernel
theorem dM_cards_60 : decode bM_cards 60 = .ok (.lshl, 1) := by decide +kernel
theorem dM_cards_61 : decode bM_cards 61 = .ok (.lor, 1) := by decide +kernel
theorem dM_cards_62 : decode bM_cards 62 = .ok (.lstore_n 2, 1) := by decide +kernel
theorem dM_cards_63 : decode bM_cards 63 = .ok (.iinc 4 1, 3) := by decide +kernel
theorem dM_cards_66 : decode bM_cards 66 = .ok (.goto (-30), 3) := by decide +kernel
theorem dM_cards_69 : decode bM_cards 69 = .ok (.iload_n 1, 1) := by decide +kernel
theorem dM_cards_70 : decode bM_cards 70 = .ok (.bipush 6, 2) := by decide +kernel
theorem dM_cards_72 : decode bM_cards 72 = .ok (.if_icmp .eq 15, 3) := by decide +kernel
theorem dM_cards_75 : decode bM_cards 75 = .ok (.aload_n 0, 1) := by decide +kernel
theorem dM_cards_76 : decode bM_cards 76 = .ok (.getfield 22, 3) := by decide +kernel
theorem dM_cards_79 : decode bM_cards 79 = .ok (.iconst 2, 1) := by decide +kernel
theorem dM_cards_80 : decode bM_cards 80 = .ok (.iload_n 1, 1) := by decide +kernel
theorem dM_cards_81 : decode bM_cards 81 = .ok (.imul, 1) := by decide +kernel
theorem dM_cards_82 : decode bM_cards 82 = .ok (.iaload, 1) := by decide +kernel
theorem dM_cards_83 : decode bM_cards 83 = .ok (.iconst (-1), 1) := by decide +kernel
theorem dM_cards_84 : decode bM_cards 84 = .ok (.if_icmp .ne 7, 3) := by decide +kernel
theorem dM_cards_87 : decode bM_cards 87 = .ok (.lload_n 2, 1) := by decide +kernel
theorem dM_cards_88 : decode bM_cards 88 = .ok (.goto 26, 3) := by decide +kernel
theorem dM_cards_91 : decode bM_cards 91 = .ok (.lconst 1, 1) := by decide +kernel
theorem dM_cards_92 : decode bM_cards 92 = .ok (.aload_n 0, 1) := by decide +kernel
theorem dM_cards_93 : decode bM_cards 93 = .ok (.getfield 22, 3) := by decide +kernel
theorem dM_cards_96 : decode bM_cards 96 = .ok (.iconst 2, 1) := by decide +kernel
theorem dM_cards_97 : decode bM_cards 97 = .ok (.iload_n 1, 1) := by decide +kernel
theorem dM_cards_98 : decode bM_cards 98 = .ok (.imul, 1) := by decide +kernel
theorem dM_cards_99 : decode bM_cards 99 = .ok (.iaload, 1) := by decide +kernel
theorem dM_cards_100 : decode bM_cards 100 = .ok (.lshl, 1) := by decide +kernel
theorem dM_cards_101 : decode bM_cards 101 = .ok (.lconst 1, 1) := by decide +kernel
theorem dM_cards_102 : decode bM_cards 102 = .ok (.aload_n 0, 1) := by decide +kernel
theorem dM_cards_103 : decode bM_cards 103 = .ok (.getfield 22, 3) := by decide +kernel
theorem dM_cards_106 : decode bM_cards 106 = .ok (.iconst 2, 1) := by decide +kernel
theorem dM_cards_107 : decode bM_cards 107 = .ok (.iload_n 1, 1) := by decide +kernel
theorem dM_cards_108 : decode bM_cards 108 = .ok (.imul, 1) := by decide +kernel
theorem dM_cards_109 : decode bM_cards 109 = .ok (.iconst 1, 1) := by decide +kernel
theorem dM_cards_110 : decode bM_cards 110 = .ok (.iadd, 1) := by decide +kernel
theorem dM_cards_111 : decode bM_cards 111 = .ok (.iaload, 1) := by decide +kernel
theorem dM_cards_112 : decode bM_cards 112 = .ok (.lshl, 1) := by decide +kernel
theorem dM_cards_113 : decode bM_cards 113 = .ok (.lor, 1) := by decide +kernel
theorem dM_cards_114 : decode bM_cards 114 = .ok (.lreturn, 1) := by decide +kernel
abbrev bM_hand : ByteArray := prog_3_method_31_code
def yM_hand : MethodName := ⟨"HandTablesModel", "hand", "(I)I"⟩
theorem dM_hand_0 : decode bM_hand 0 = .ok (.aload_n 0, 1) := by decide +kernel
theorem dM_hand_1 : decode bM_hand 1 = .ok (.iload_n 1, 1) := by decide +kernel
theorem dM_hand_2 : decode bM_hand 2 = .ok (.invokestatic 100, 3) := by decide +kernel
theorem dM_hand_5 : decode bM_hand 5 = .ok (.ifCond .eq 7, 3) := by decide +kernel
theorem dM_hand_8 : decode bM_hand 8 = .ok (.iconst 1, 1) := by decide +kernel
theorem dM_hand_9 : decode bM_hand 9 = .ok (.goto 28, 3) := by decide +kernel
theorem dM_hand_12 : decode bM_hand 12 = .ok (.aload_n 0, 1) := by decide +kernel
theorem dM_hand_13 : decode bM_hand 13 = .ok (.getfield 22, 3) := by decide +kernel
theorem dM_hand_16 : decode bM_hand 16 = .ok (.iconst 2, 1) := by decide +kernel
theorem dM_hand_17 : decode bM_hand 17 = .ok (.iload_n 1, 1) := by decide +kernel
theorem dM_hand_18 : decode bM_hand 18 = .ok (.imul, 1) := by decide +kernel
theorem dM_hand_19 : decode bM_hand 19 = .ok (.iaload, 1) := by decide +kernel
theorem dM_hand_20 : decode bM_hand 20 = .ok (.iconst (-1), 1) := by decide +kernel
theorem dM_hand_21 : decode bM_hand 21 = .ok (.if_icmp .eq 11, 3) := by decide +kernel
theorem dM_hand_24 : decode bM_hand 24 = .ok (.aload_n 0, 1) := by decide +kernel
theorem dM_hand_25 : decode bM_hand 25 = .ok (.getfield 97, 3) := by decide +kernel
theorem dM_hand_28 : decode bM_hand 28 = .ok (.iconst 3, 1) := by decide +kernel
theorem dM_hand_29 : decode bM_hand 29 = .ok (.if_icmp .ge 7, 3) := by decide +kernel
theorem dM_hand_32 : decode bM_hand 32 = .ok (.iconst 2, 1) := by decide +kernel
theorem dM_hand_33 : decode bM_hand 33 = .ok (.goto 4, 3) := by decide +kernel
theorem dM_hand_36 : decode bM_hand 36 = .ok (.iconst 0, 1) := by decide +kernel
theorem dM_hand_37 : decode bM_hand 37 = .ok (.putfield 58, 3) := by decide +kernel
theorem dM_hand_40 : decode bM_hand 40 = .ok (.aload_n 0, 1) := by decide +kernel
theorem dM_hand_41 : decode bM_hand 41 = .ok (.getfield 58, 3) := by decide +kernel
theorem dM_hand_44 : decode bM_hand 44 = .ok (.ifCond .le 7, 3) := by decide +kernel
theorem dM_hand_47 : decode bM_hand 47 = .ok (.iconst 0, 1) := by decide +kernel
theorem dM_hand_48 : decode bM_hand 48 = .ok (.goto 14, 3) := by decide +kernel
theorem dM_hand_51 : decode bM_hand 51 = .ok (.aload_n 0, 1) := by decide +kernel
theorem dM_hand_52 : decode bM_hand 52 = .ok (.aload_n 0, 1) := by decide +kernel
theorem dM_hand_53 : decode bM_hand 53 = .ok (.iload_n 1, 1) := by decide +kernel
theorem dM_hand_54 : decode bM_hand 54 = .ok (.iconst (-1), 1) := by decide +kernel
theorem dM_hand_55 : decode bM_hand 55 = .ok (.iconst (-1), 1) := by decide +kernel
theorem dM_hand_56 : decode bM_hand 56 = .ok (.invokevirtual 121, 3) := by decide +kernel
theorem dM_hand_59 : decode bM_hand 59 = .ok (.invokevirtual 91, 3) := by decide +kernel
theorem dM_hand_62 : decode bM_hand 62 = .ok (.ireturn, 1) := by decide +kernel
abbrev bM_keyOfSeat : ByteArray := prog_3_method_29_code
def yM_keyOfSeat : MethodName := ⟨"HandTablesModel", "keyOfSeat", "(III)I"⟩
theorem dM_keyOfSeat_0 : decode bM_keyOfSeat 0 = .ok (.aload_n 0, 1) := by decide +kernel
theorem dM_keyOfSeat_1 : decode bM_keyOfSeat 1 = .ok (.getfield 19, 3) := by decide +kernel
theorem dM_keyOfSeat_4 : decode bM_keyOfSeat 4 = .ok (.iconst 0, 1) := by decide +kernel
theorem dM_keyOfSeat_5 : decode bM_keyOfSeat 5 = .ok (.aload_n 0, 1) := by decide +kernel
theorem dM_keyOfSeat_6 : decode bM_keyOfSeat 6 = .ok (.getfield 22, 3) := by decide +kernel
theorem dM_keyOfSeat_9 : decode bM_keyOfSeat 9 = .ok (.iconst 2, 1) := by decide +kernel
theorem dM_keyOfSeat_10 : decode bM_keyOfSeat 10 = .ok (.iload_n 1, 1) := by decide +kernel
theorem dM_keyOfSeat_11 : decode bM_keyOfSeat 11 = .ok (.imul, 1) := by decide +kernel
theorem dM_keyOfSeat_12 : decode bM_keyOfSeat 12 = .ok (.iaload, 1) := by decide +kernel
theorem dM_keyOfSeat_13 : decode bM_keyOfSeat 13 = .ok (.iastore, 1) := by decide +kernel
theorem dM_keyOfSeat_14 : decode bM_keyOfSeat 14 = .ok (.aload_n 0, 1) := by decide +kernel
theorem dM_keyOfSeat_15 : decode bM_keyOfSeat 15 = .ok (.getfield 19, 3) := by decide +kernel
theorem dM_keyOfSeat_18 : decode bM_keyOfSeat 18 = .ok (.iconst 1, 1) := by decide +kernel
theorem dM_keyOfSeat_19 : decode bM_keyOfSeat 19 = .ok (.aload_n 0, 1) := by decide +kernel
theorem dM_keyOfSeat_20 : decode bM_keyOfSeat 20 = .ok (.getfield 22, 3) := by decide +kernel
theorem dM_keyOfSeat_23 : decode bM_keyOfSeat 23 = .ok (.iconst 2, 1) := by decide +kernel
theorem dM_keyOfSeat_24 : decode bM_keyOfSeat 24 = .ok (.iload_n 1, 1) := by decide +kernel
theorem dM_keyOfSeat_25 : decode bM_keyOfSeat 25 = .ok (.imul, 1) := by decide +kernel
theorem dM_keyOfSeat_26 : decode bM_keyOfSeat 26 = .ok (.iconst 1, 1) := by decide +kernel
theorem dM_keyOfSeat_27 : decode bM_keyOfSeat 27 = .ok (.iadd, 1) := by decide +kernel
theorem dM_keyOfSeat_28 : decode bM_keyOfSeat 28 = .ok (.iaload, 1) := by decide +kernel
theorem dM_keyOfSeat_29 : decode bM_keyOfSeat 29 = .ok (.iastore, 1) := by decide +kernel
theorem dM_keyOfSeat_30 : decode bM_keyOfSeat 30 = .ok (.aload_n 0, 1) := by decide +kernel
theorem dM_keyOfSeat_31 : decode bM_keyOfSeat 31 = .ok (.iconst 2, 1) := by decide +kernel
theorem dM_keyOfSeat_32 : decode bM_keyOfSeat 32 = .ok (.putfield 74, 3) := by decide +kernel
theorem dM_keyOfSeat_35 : decode bM_keyOfSeat 35 = .ok (.iconst 0, 1) := by decide +kernel
theorem dM_keyOfSeat_36 : decode bM_keyOfSeat 36 = .ok (.istore 4, 2) := by decide +kernel
theorem dM_keyOfSeat_38 : decode bM_keyOfSeat 38 = .ok (.iload 4, 2) := by decide +kernel
theorem dM_keyOfSeat_40 : decode bM_keyOfSeat 40 = .ok (.aload_n 0, 1) := by decide +kernel
theorem dM_keyOfSeat_41 : decode bM_keyOfSeat 41 = .ok (.getfield 97, 3) := by decide +kernel
theorem dM_keyOfSeat_44 : decode bM_keyOfSeat 44 = .ok (.if_icmp .ge 35, 3) := by decide +kernel
theorem dM_keyOfSeat_47 : decode bM_keyOfSeat 47 = .ok (.aload_n 0, 1) := by decide +kernel
theorem dM_keyOfSeat_48 : decode bM_keyOfSeat 48 = .ok (.getfield 19, 3) := by decide +kernel
theorem dM_keyOfSeat_51 : decode bM_keyOfSeat 51 = .ok (.aload_n 0, 1) := by decide +kernel
theorem dM_keyOfSeat_52 : decode bM_keyOfSeat 52 = .ok (.getfield 74, 3) := by decide +kernel
theorem dM_keyOfSeat_55 : decode bM_keyOfSeat 55 = .ok (.aload_n 0, 1) := by decide +kernel
theorem dM_keyOfSeat_56 : decode bM_keyOfSeat 56 = .ok (.getfield 25, 3) := by decide +kernel
theorem dM_keyOfSeat_59 : decode bM_keyOfSeat 59 = .ok (.iload 4, 2) := by decide +kernel
theorem dM_keyOfSeat_61 : decode bM_keyOfSeat 61 = .ok (.iaload, 1) := by decide +kernel
theorem dM_keyOfSeat_62 : decode bM_keyOfSeat 62 = .ok (.iastore, 1) := by decide +kernel
theorem dM_keyOfSeat_63 : decode bM_keyOfSeat 63 = .ok (.aload_n 0, 1) := by decide +kernel
theorem dM_keyOfSeat_64 : decode bM_keyOfSeat 64 = .ok (.dup, 1) := by decide +kernel
theorem dM_keyOfSeat_65 : decode bM_keyOfSeat 65 = .ok (.getfield 74, 3) := by decide +kernel
theorem dM_keyOfSeat_68 : decode bM_keyOfSeat 68 = .ok (.iconst 1, 1) := by decide +kernel
theorem dM_keyOfSeat_69 : decode bM_keyOfSeat 69 = .ok (.iadd, 1) := by decide +kernel
theorem dM_keyOfSeat_70 : decode bM_keyOfSeat 70 = .ok (.putfield 74, 3) := by decide +kernel
theorem dM_keyOfSeat_73 : decode bM_keyOfSeat 73 = .ok (.iinc 4 1, 3) := by decide +kernel
theorem dM_keyOfSeat_76 : decode bM_keyOfSeat 76 = .ok (.goto (-38), 3) := by decide +kernel
theorem dM_keyOfSeat_79 : decode bM_keyOfSeat 79 = .ok (.iload_n 2, 1) := by decide +kernel
theorem dM_keyOfSeat_80 : decode bM_keyOfSeat 80 = .ok (.ifCond .lt 23, 3) := by decide +kernel
theorem dM_keyOfSeat_83 : decode bM_keyOfSeat 83 = .ok (.aload_n 0, 1) := by decide +kernel
theorem dM_keyOfSeat_84 : decode bM_keyOfSeat 84 = .ok (.getfield 19, 3) := by decide +kernel
theorem dM_keyOfSeat_87 : decode bM_keyOfSeat 87 = .ok (.aload_n 0, 1) := by decide +kernel
theorem dM_keyOfSeat_88 : decode bM_keyOfSeat 88 = .ok (.getfield 74, 3) := by decide +kernel
theorem dM_keyOfSeat_91 : decode bM_keyOfSeat 91 = .ok (.iload_n 2, 1) := by decide +kernel
theorem dM_keyOfSeat_92 : decode bM_keyOfSeat 92 = .ok (.iastore, 1) := by decide +kernel
theorem dM_keyOfSeat_93 : decode bM_keyOfSeat 93 = .ok (.aload_n 0, 1) := by decide +kernel
theorem dM_keyOfSeat_94 : decode bM_keyOfSeat 94 = .ok (.dup, 1) := by decide +kernel
theorem dM_keyOfSeat_95 : decode bM_keyOfSeat 95 = .ok (.getfield 74, 3) := by decide +kernel
theorem dM_keyOfSeat_98 : decode bM_keyOfSeat 98 = .ok (.iconst 1, 1) := by decide +kernel
theorem dM_keyOfSeat_99 : decode bM_keyOfSeat 99 = .ok (.iadd, 1) := by decide +kernel
theorem dM_keyOfSeat_100 : decode bM_keyOfSeat 100 = .ok (.putfield 74, 3) := by decide +kernel
theorem dM_keyOfSeat_103 : decode bM_keyOfSeat 103 = .ok (.iload_n 3, 1) := by decide +kernel
theorem dM_keyOfSeat_104 : decode bM_keyOfSeat 104 = .ok (.ifCond .lt 23, 3) := by decide +kernel
theorem dM_keyOfSeat_107 : decode bM_keyOfSeat 107 = .ok (.aload_n 0, 1) := by decide +kernel
theorem dM_keyOfSeat_108 : decode bM_keyOfSeat 108 = .ok (.getfield 19, 3) := by decide +kernel
theorem dM_keyOfSeat_111 : decode bM_keyOfSeat 111 = .ok (.aload_n 0, 1) := by decide +kernel
theorem dM_keyOfSeat_112 : decode bM_keyOfSeat 112 = .ok (.getfield 74, 3) := by decide +kernel
theorem dM_keyOfSeat_115 : decode bM_keyOfSeat 115 = .ok (.iload_n 3, 1) := by decide +kernel
theorem dM_keyOfSeat_116 : decode bM_keyOfSeat 116 = .ok (.iastore, 1) := by decide +kernel
theorem dM_keyOfSeat_117 : decode bM_keyOfSeat 117 = .ok (.aload_n 0, 1) := by decide +kernel
theorem dM_keyOfSeat_118 : decode bM_keyOfSeat 118 = .ok (.dup, 1) := by decide +kernel
theorem dM_keyOfSeat_119 : decode bM_keyOfSeat 119 = .ok (.getfield 74, 3) := by decide +kernel
theorem dM_keyOfSeat_122 : decode bM_keyOfSeat 122 = .ok (.iconst 1, 1) := by decide +kernel
theorem dM_keyOfSeat_123 : decode bM_keyOfSeat 123 = .ok (.iadd, 1) := by decide +kernel
theorem dM_keyOfSeat_124 : decode bM_keyOfSeat 124 = .ok (.putfield 74, 3) := by decide +kernel
theorem dM_keyOfSeat_127 : decode bM_keyOfSeat 127 = .ok (.aload_n 0, 1) := by decide +kernel
theorem dM_keyOfSeat_128 : decode bM_keyOfSeat 128 = .ok (.invokevirtual 88, 3) := by decide +kernel
theorem dM_keyOfSeat_131 : decode bM_keyOfSeat 131 = .ok (.ireturn, 1) := by decide +kernel
abbrev bM_ahead : ByteArray := prog_3_method_33_code
def yM_ahead : MethodName := ⟨"HandTablesModel", "ahead", "()I"⟩
theorem dM_ahead_0 : decode bM_ahead 0 = .ok (.aload_n 0, 1) := by decide +kernel
theorem dM_ahead_1 : decode bM_ahead 1 = .ok (.aload_n 0, 1) := by decide +kernel
theorem dM_ahead_2 : decode bM_ahead 2 = .ok (.invokevirtual 125, 3) := by decide +kernel
theorem dM_ahead_5 : decode bM_ahead 5 = .ok (.ifCond .ne 11, 3) := by decide +kernel
theorem dM_ahead_8 : decode bM_ahead 8 = .ok (.aload_n 0, 1) := by decide +kernel
theorem dM_ahead_9 : decode bM_ahead 9 = .ok (.getfield 97, 3) := by decide +kernel
theorem dM_ahead_12 : decode bM_ahead 12 = .ok (.iconst 3, 1) := by decide +kernel
theorem dM_ahead_13 : decode bM_ahead 13 = .ok (.if_icmp .ge 7, 3) := by decide +kernel
theorem dM_ahead_16 : decode bM_ahead 16 = .ok (.iconst 1, 1) := by decide +kernel
theorem dM_ahead_17 : decode bM_ahead 17 = .ok (.goto 4, 3) := by decide +kernel
theorem dM_ahead_20 : decode bM_ahead 20 = .ok (.iconst 0, 1) := by decide +kernel
theorem dM_ahead_21 : decode bM_ahead 21 = .ok (.putfield 58, 3) := by decide +kernel
theorem dM_ahead_24 : decode bM_ahead 24 = .ok (.aload_n 0, 1) := by decide +kernel
theorem dM_ahead_25 : decode bM_ahead 25 = .ok (.getfield 58, 3) := by decide +kernel
theorem dM_ahead_28 : decode bM_ahead 28 = .ok (.ifCond .le 7, 3) := by decide +kernel
theorem dM_ahead_31 : decode bM_ahead 31 = .ok (.iconst 0, 1) := by decide +kernel
theorem dM_ahead_32 : decode bM_ahead 32 = .ok (.goto 9, 3) := by decide +kernel
theorem dM_ahead_35 : decode bM_ahead 35 = .ok (.aload_n 0, 1) := by decide +kernel
theorem dM_ahead_36 : decode bM_ahead 36 = .ok (.iconst (-1), 1) := by decide +kernel
theorem dM_ahead_37 : decode bM_ahead 37 = .ok (.iconst (-1), 1) := by decide +kernel
theorem dM_ahead_38 : decode bM_ahead 38 = .ok (.invokevirtual 129, 3) := by decide +kernel
theorem dM_ahead_41 : decode bM_ahead 41 = .ok (.ireturn, 1) := by decide +kernel
abbrev bM_isEmpty : ByteArray := prog_3_method_32_code
def yM_isEmpty : MethodName := ⟨"HandTablesModel", "isEmpty", "()Z"⟩
theorem dM_isEmpty_0 : decode bM_isEmpty 0 = .ok (.iconst 1, 1) := by decide +kernel
theorem dM_isEmpty_1 : decode bM_isEmpty 1 = .ok (.istore_n 1, 1) := by decide +kernel
theorem dM_isEmpty_2 : decode bM_isEmpty 2 = .ok (.iconst 0, 1) := by decide +kernel
theorem dM_isEmpty_3 : decode bM_isEmpty 3 = .ok (.istore_n 2, 1) := by decide +kernel
theorem dM_isEmpty_4 : decode bM_isEmpty 4 = .ok (.iload_n 2, 1) := by decide +kernel
theorem dM_isEmpty_5 : decode bM_isEmpty 5 = .ok (.bipush 6, 2) := by decide +kernel
theorem dM_isEmpty_7 : decode bM_isEmpty 7 = .ok (.if_icmp .ge 31, 3) := by decide +kernel
theorem dM_isEmpty_10 : decode bM_isEmpty 10 = .ok (.iload_n 1, 1) := by decide +kernel
theorem dM_isEmpty_11 : decode bM_isEmpty 11 = .ok (.ifCond .eq 19, 3) := by decide +kernel
theorem dM_isEmpty_14 : decode bM_isEmpty 14 = .ok (.aload_n 0, 1) := by decide +kernel
theorem dM_isEmpty_15 : decode bM_isEmpty 15 = .ok (.getfield 22, 3) := by decide +kernel
theorem dM_isEmpty_18 : decode bM_isEmpty 18 = .ok (.iconst 2, 1) := by decide +kernel
theorem dM_isEmpty_19 : decode bM_isEmpty 19 = .ok (.iload_n 2, 1) := by decide +kernel
theorem dM_isEmpty_20 : decode bM_isEmpty 20 = .ok (.imul, 1) := by decide +kernel
theorem dM_isEmpty_21 : decode bM_isEmpty 21 = .ok (.iaload, 1) := by decide +kernel
theorem dM_isEmpty_22 : decode bM_isEmpty 22 = .ok (.iconst (-1), 1) := by decide +kernel
theorem dM_isEmpty_23 : decode bM_isEmpty 23 = .ok (.if_icmp .ne 7, 3) := by decide +kernel
theorem dM_isEmpty_26 : decode bM_isEmpty 26 = .ok (.iconst 1, 1) := by decide +kernel
theorem dM_isEmpty_27 : decode bM_isEmpty 27 = .ok (.goto 4, 3) := by decide +kernel
theorem dM_isEmpty_30 : decode bM_isEmpty 30 = .ok (.iconst 0, 1) := by decide +kernel
theorem dM_isEmpty_31 : decode bM_isEmpty 31 = .ok (.istore_n 1, 1) := by decide +kernel
theorem dM_isEmpty_32 : decode bM_isEmpty 32 = .ok (.iinc 2 1, 3) := by decide +kernel
theorem dM_isEmpty_35 : decode bM_isEmpty 35 = .ok (.goto (-31), 3) := by decide +kernel
theorem dM_isEmpty_38 : decode bM_isEmpty 38 = .ok (.iload_n 1, 1) := by decide +kernel
theorem dM_isEmpty_39 : decode bM_isEmpty 39 = .ok (.ireturn, 1) := by decide +kernel
abbrev bM_leaders : ByteArray := prog_3_method_30_code
def yM_leaders : MethodName := ⟨"HandTablesModel", "leaders", "(II)I"⟩
theorem dM_leaders_0 : decode bM_leaders 0 = .ok (.aload_n 0, 1) := by decide +kernel
theorem dM_leaders_1 : decode bM_leaders 1 = .ok (.iconst (-1), 1) := by decide +kernel
theorem dM_leaders_2 : decode bM_leaders 2 = .ok (.putfield 115, 3) := by decide +kernel
theorem dM_leaders_5 : decode bM_leaders 5 = .ok (.aload_n 0, 1) := by decide +kernel
theorem dM_leaders_6 : decode bM_leaders 6 = .ok (.iconst 0, 1) := by decide +kernel
theorem dM_leaders_7 : decode bM_leaders 7 = .ok (.putfield 118, 3) := by decide +kernel
theorem dM_leaders_10 : decode bM_leaders 10 = .ok (.iconst 0, 1) := by decide +kernel
theorem dM_leaders_11 : decode bM_leaders 11 = .ok (.istore_n 3, 1) := by decide +kernel
theorem dM_leaders_12 : decode bM_leaders 12 = .ok (.iload_n 3, 1) := by decide +kernel
theorem dM_leaders_13 : decode bM_leaders 13 = .ok (.bipush 6, 2) := by decide +kernel
theorem dM_leaders_15 : decode bM_leaders 15 = .ok (.if_icmp .ge 78, 3) := by decide +kernel
theorem dM_leaders_18 : decode bM_leaders 18 = .ok (.aload_n 0, 1) := by decide +kernel
theorem dM_leaders_19 : decode bM_leaders 19 = .ok (.getfield 22, 3) := by decide +kernel
theorem dM_leaders_22 : decode bM_leaders 22 = .ok (.iconst 2, 1) := by decide +kernel
theorem dM_leaders_23 : decode bM_leaders 23 = .ok (.iload_n 3, 1) := by decide +kernel
theorem dM_leaders_24 : decode bM_leaders 24 = .ok (.imul, 1) := by decide +kernel
theorem dM_leaders_25 : decode bM_leaders 25 = .ok (.iaload, 1) := by decide +kernel
theorem dM_leaders_26 : decode bM_leaders 26 = .ok (.iconst (-1), 1) := by decide +kernel
theorem dM_leaders_27 : decode bM_leaders 27 = .ok (.if_icmp .eq 60, 3) := by decide +kernel
theorem dM_leaders_30 : decode bM_leaders 30 = .ok (.aload_n 0, 1) := by decide +kernel
theorem dM_leaders_31 : decode bM_leaders 31 = .ok (.iload_n 3, 1) := by decide +kernel
theorem dM_leaders_32 : decode bM_leaders 32 = .ok (.iload_n 1, 1) := by decide +kernel
theorem dM_leaders_33 : decode bM_leaders 33 = .ok (.iload_n 2, 1) := by decide +kernel
theorem dM_leaders_34 : decode bM_leaders 34 = .ok (.invokevirtual 121, 3) := by decide +kernel
theorem dM_leaders_37 : decode bM_leaders 37 = .ok (.istore 4, 2) := by decide +kernel
theorem dM_leaders_39 : decode bM_leaders 39 = .ok (.iload 4, 2) := by decide +kernel
theorem dM_leaders_41 : decode bM_leaders 41 = .ok (.aload_n 0, 1) := by decide +kernel
theorem dM_leaders_42 : decode bM_leaders 42 = .ok (.getfield 115, 3) := by decide +kernel
theorem dM_leaders_45 : decode bM_leaders 45 = .ok (.if_icmp .le 14, 3) := by decide +kernel
theorem dM_leaders_48 : decode bM_leaders 48 = .ok (.aload_n 0, 1) := by decide +kernel
theorem dM_leaders_49 : decode bM_leaders 49 = .ok (.iload 4, 2) := by decide +kernel
theorem dM_leaders_51 : decode bM_leaders 51 = .ok (.putfield 115, 3) := by decide +kernel
theorem dM_leaders_54 : decode bM_leaders 54 = .ok (.aload_n 0, 1) := by decide +kernel
theorem dM_leaders_55 : decode bM_leaders 55 = .ok (.iconst 0, 1) := by decide +kernel
theorem dM_leaders_56 : decode bM_leaders 56 = .ok (.putfield 118, 3) := by decide +kernel
theorem dM_leaders_59 : decode bM_leaders 59 = .ok (.aload_n 0, 1) := by decide +kernel
theorem dM_leaders_60 : decode bM_leaders 60 = .ok (.iload 4, 2) := by decide +kernel
theorem dM_leaders_62 : decode bM_leaders 62 = .ok (.aload_n 0, 1) := by decide +kernel
theorem dM_leaders_63 : decode bM_leaders 63 = .ok (.getfield 115, 3) := by decide +kernel
theorem dM_leaders_66 : decode bM_leaders 66 = .ok (.if_icmp .ne 14, 3) := by decide +kernel
theorem dM_leaders_69 : decode bM_leaders 69 = .ok (.aload_n 0, 1) := by decide +kernel
theorem dM_leaders_70 : decode bM_leaders 70 = .ok (.getfield 118, 3) := by decide +kernel
theorem dM_leaders_73 : decode bM_leaders 73 = .ok (.iconst 1, 1) := by decide +kernel
theorem dM_leaders_74 : decode bM_leaders 74 = .ok (.iload_n 3, 1) := by decide +kernel
theorem dM_leaders_75 : decode bM_leaders 75 = .ok (.ishl, 1) := by decide +kernel
theorem dM_leaders_76 : decode bM_leaders 76 = .ok (.ior, 1) := by decide +kernel
theorem dM_leaders_77 : decode bM_leaders 77 = .ok (.goto 7, 3) := by decide +kernel
theorem dM_leaders_80 : decode bM_leaders 80 = .ok (.aload_n 0, 1) := by decide +kernel
theorem dM_leaders_81 : decode bM_leaders 81 = .ok (.getfield 118, 3) := by decide +kernel
theorem dM_leaders_84 : decode bM_leaders 84 = .ok (.putfield 118, 3) := by decide +kernel
theorem dM_leaders_87 : decode bM_leaders 87 = .ok (.iinc 3 1, 3) := by decide +kernel
theorem dM_leaders_90 : decode bM_leaders 90 = .ok (.goto (-78), 3) := by decide +kernel
theorem dM_leaders_93 : decode bM_leaders 93 = .ok (.aload_n 0, 1) := by decide +kernel
theorem dM_leaders_94 : decode bM_leaders 94 = .ok (.getfield 118, 3) := by decide +kernel
theorem dM_leaders_97 : decode bM_leaders 97 = .ok (.ireturn, 1) := by decide +kernel
abbrev bM_boards : ByteArray := prog_3_method_37_code
def yM_boards : MethodName := ⟨"HandTablesModel", "boards", "()I"⟩
theorem dM_boards_0 : decode bM_boards 0 = .ok (.aload_n 0, 1) := by decide +kernel
theorem dM_boards_1 : decode bM_boards 1 = .ok (.aload_n 0, 1) := by decide +kernel
theorem dM_boards_2 : decode bM_boards 2 = .ok (.getfield 97, 3) := by decide +kernel
theorem dM_boards_5 : decode bM_boards 5 = .ok (.iconst 3, 1) := by decide +kernel
theorem dM_boards_6 : decode bM_boards 6 = .ok (.if_icmp .ge 7, 3) := by decide +kernel
theorem dM_boards_9 : decode bM_boards 9 = .ok (.iconst 1, 1) := by decide +kernel
theorem dM_boards_10 : decode bM_boards 10 = .ok (.goto 4, 3) := by decide +kernel
theorem dM_boards_13 : decode bM_boards 13 = .ok (.iconst 0, 1) := by decide +kernel
theorem dM_boards_14 : decode bM_boards 14 = .ok (.putfield 58, 3) := by decide +kernel
theorem dM_boards_17 : decode bM_boards 17 = .ok (.aload_n 0, 1) := by decide +kernel
theorem dM_boards_18 : decode bM_boards 18 = .ok (.getfield 58, 3) := by decide +kernel
theorem dM_boards_21 : decode bM_boards 21 = .ok (.ifCond .le 5, 3) := by decide +kernel
theorem dM_boards_24 : decode bM_boards 24 = .ok (.iconst 0, 1) := by decide +kernel
theorem dM_boards_25 : decode bM_boards 25 = .ok (.ireturn, 1) := by decide +kernel
theorem dM_boards_26 : decode bM_boards 26 = .ok (.aload_n 0, 1) := by decide +kernel
theorem dM_boards_27 : decode bM_boards 27 = .ok (.invokevirtual 139, 3) := by decide +kernel
theorem dM_boards_30 : decode bM_boards 30 = .ok (.aload_n 0, 1) := by decide +kernel
theorem dM_boards_31 : decode bM_boards 31 = .ok (.getfield 97, 3) := by decide +kernel
theorem dM_boards_34 : decode bM_boards 34 = .ok (.iconst 5, 1) := by decide +kernel
theorem dM_boards_35 : decode bM_boards 35 = .ok (.if_icmp .ne 7, 3) := by decide +kernel
theorem dM_boards_38 : decode bM_boards 38 = .ok (.iconst 1, 1) := by decide +kernel
theorem dM_boards_39 : decode bM_boards 39 = .ok (.goto 31, 3) := by decide +kernel
theorem dM_boards_42 : decode bM_boards 42 = .ok (.aload_n 0, 1) := by decide +kernel
theorem dM_boards_43 : decode bM_boards 43 = .ok (.getfield 97, 3) := by decide +kernel
theorem dM_boards_46 : decode bM_boards 46 = .ok (.iconst 4, 1) := by decide +kernel
theorem dM_boards_47 : decode bM_boards 47 = .ok (.if_icmp .ne 10, 3) := by decide +kernel
theorem dM_boards_50 : decode bM_boards 50 = .ok (.aload_n 0, 1) := by decide +kernel
theorem dM_boards_51 : decode bM_boards 51 = .ok (.getfield 133, 3) := by decide +kernel
theorem dM_boards_54 : decode bM_boards 54 = .ok (.goto 16, 3) := by decide +kernel
theorem dM_boards_57 : decode bM_boards 57 = .ok (.aload_n 0, 1) := by decide +kernel
theorem dM_boards_58 : decode bM_boards 58 = .ok (.getfield 133, 3) := by decide +kernel
theorem dM_boards_61 : decode bM_boards 61 = .ok (.aload_n 0, 1) := by decide +kernel
theorem dM_boards_62 : decode bM_boards 62 = .ok (.getfield 133, 3) := by decide +kernel
theorem dM_boards_65 : decode bM_boards 65 = .ok (.iconst 1, 1) := by decide +kernel
theorem dM_boards_66 : decode bM_boards 66 = .ok (.isub, 1) := by decide +kernel
theorem dM_boards_67 : decode bM_boards 67 = .ok (.imul, 1) := by decide +kernel
theorem dM_boards_68 : decode bM_boards 68 = .ok (.iconst 2, 1) := by decide +kernel
theorem dM_boards_69 : decode bM_boards 69 = .ok (.idiv, 1) := by decide +kernel
theorem dM_boards_70 : decode bM_boards 70 = .ok (.ireturn, 1) := by decide +kernel
abbrev bM_findLeft : ByteArray := prog_3_method_34_code
def yM_findLeft : MethodName := ⟨"HandTablesModel", "findLeft", "()V"⟩
theorem dM_findLeft_0 : decode bM_findLeft 0 = .ok (.aload_n 0, 1) := by decide +kernel
theorem dM_findLeft_1 : decode bM_findLeft 1 = .ok (.iconst 0, 1) := by decide +kernel
theorem dM_findLeft_2 : decode bM_findLeft 2 = .ok (.putfield 133, 3) := by decide +kernel
theorem dM_findLeft_5 : decode bM_findLeft 5 = .ok (.iconst 0, 1) := by decide +kernel
theorem dM_findLeft_6 : decode bM_findLeft 6 = .ok (.istore_n 1, 1) := by decide +kernel
theorem dM_findLeft_7 : decode bM_findLeft 7 = .ok (.iload_n 1, 1) := by decide +kernel
theorem dM_findLeft_8 : decode bM_findLeft 8 = .ok (.bipush 52, 2) := by decide +kernel
theorem dM_findLeft_10 : decode bM_findLeft 10 = .ok (.if_icmp .ge 38, 3) := by decide +kernel
theorem dM_findLeft_13 : decode bM_findLeft 13 = .ok (.aload_n 0, 1) := by decide +kernel
theorem dM_findLeft_14 : decode bM_findLeft 14 = .ok (.iload_n 1, 1) := by decide +kernel
theorem dM_findLeft_15 : decode bM_findLeft 15 = .ok (.iconst (-1), 1) := by decide +kernel
theorem dM_findLeft_16 : decode bM_findLeft 16 = .ok (.invokevirtual 107, 3) := by decide +kernel
theorem dM_findLeft_19 : decode bM_findLeft 19 = .ok (.ifCond .ne 23, 3) := by decide +kernel
theorem dM_findLeft_22 : decode bM_findLeft 22 = .ok (.aload_n 0, 1) := by decide +kernel
theorem dM_findLeft_23 : decode bM_findLeft 23 = .ok (.getfield 37, 3) := by decide +kernel
theorem dM_findLeft_26 : decode bM_findLeft 26 = .ok (.aload_n 0, 1) := by decide +kernel
theorem dM_findLeft_27 : decode bM_findLeft 27 = .ok (.getfield 133, 3) := by decide +kernel
theorem dM_findLeft_30 : decode bM_findLeft 30 = .ok (.iload_n 1, 1) := by decide +kernel
theorem dM_findLeft_31 : decode bM_findLeft 31 = .ok (.iastore, 1) := by decide +kernel
theorem dM_findLeft_32 : decode bM_findLeft 32 = .ok (.aload_n 0, 1) := by decide +kernel
theorem dM_findLeft_33 : decode bM_findLeft 33 = .ok (.dup, 1) := by decide +kernel
theorem dM_findLeft_34 : decode bM_findLeft 34 = .ok (.getfield 133, 3) := by decide +kernel
theorem dM_findLeft_37 : decode bM_findLeft 37 = .ok (.iconst 1, 1) := by decide +kernel
theorem dM_findLeft_38 : decode bM_findLeft 38 = .ok (.iadd, 1) := by decide +kernel
theorem dM_findLeft_39 : decode bM_findLeft 39 = .ok (.putfield 133, 3) := by decide +kernel
theorem dM_findLeft_42 : decode bM_findLeft 42 = .ok (.iinc 1 1, 3) := by decide +kernel
theorem dM_findLeft_45 : decode bM_findLeft 45 = .ok (.goto (-38), 3) := by decide +kernel
theorem dM_findLeft_48 : decode bM_findLeft 48 = .ok (.return_, 1) := by decide +kernel
abbrev bM_wins : ByteArray := prog_3_method_38_code
def yM_wins : MethodName := ⟨"HandTablesModel", "wins", "(II)I"⟩
theorem dM_wins_0 : decode bM_wins 0 = .ok (.aload_n 0, 1) := by decide +kernel
theorem dM_wins_1 : decode bM_wins 1 = .ok (.iload_n 1, 1) := by decide +kernel
theorem dM_wins_2 : decode bM_wins 2 = .ok (.invokestatic 100, 3) := by decide +kernel
theorem dM_wins_5 : decode bM_wins 5 = .ok (.ifCond .eq 7, 3) := by decide +kernel
theorem dM_wins_8 : decode bM_wins 8 = .ok (.iconst 1, 1) := by decide +kernel
theorem dM_wins_9 : decode bM_wins 9 = .ok (.goto 41, 3) := by decide +kernel
theorem dM_wins_12 : decode bM_wins 12 = .ok (.iload_n 2, 1) := by decide +kernel
theorem dM_wins_13 : decode bM_wins 13 = .ok (.ifCond .lt 8, 3) := by decide +kernel
theorem dM_wins_16 : decode bM_wins 16 = .ok (.iload_n 2, 1) := by decide +kernel
theorem dM_wins_17 : decode bM_wins 17 = .ok (.iconst 1, 1) := by decide +kernel
theorem dM_wins_18 : decode bM_wins 18 = .ok (.if_icmp .le 7, 3) := by decide +kernel
theorem dM_wins_21 : decode bM_wins 21 = .ok (.iconst 2, 1) := by decide +kernel
theorem dM_wins_22 : decode bM_wins 22 = .ok (.goto 28, 3) := by decide +kernel
theorem dM_wins_25 : decode bM_wins 25 = .ok (.aload_n 0, 1) := by decide +kernel
theorem dM_wins_26 : decode bM_wins 26 = .ok (.getfield 22, 3) := by decide +kernel
theorem dM_wins_29 : decode bM_wins 29 = .ok (.iconst 2, 1) := by decide +kernel
theorem dM_wins_30 : decode bM_wins 30 = .ok (.iload_n 1, 1) := by decide +kernel
theorem dM_wins_31 : decode bM_wins 31 = .ok (.imul, 1) := by decide +kernel
theorem dM_wins_32 : decode bM_wins 32 = .ok (.iaload, 1) := by decide +kernel
theorem dM_wins_33 : decode bM_wins 33 = .ok (.iconst (-1), 1) := by decide +kernel
theorem dM_wins_34 : decode bM_wins 34 = .ok (.if_icmp .eq 11, 3) := by decide +kernel
theorem dM_wins_37 : decode bM_wins 37 = .ok (.aload_n 0, 1) := by decide +kernel
theorem dM_wins_38 : decode bM_wins 38 = .ok (.getfield 97, 3) := by decide +kernel
theorem dM_wins_41 : decode bM_wins 41 = .ok (.iconst 3, 1) := by decide +kernel
theorem dM_wins_42 : decode bM_wins 42 = .ok (.if_icmp .ge 7, 3) := by decide +kernel
theorem dM_wins_45 : decode bM_wins 45 = .ok (.iconst 3, 1) := by decide +kernel
theorem dM_wins_46 : decode bM_wins 46 = .ok (.goto 4, 3) := by decide +kernel
theorem dM_wins_49 : decode bM_wins 49 = .ok (.iconst 0, 1) := by decide +kernel
theorem dM_wins_50 : decode bM_wins 50 = .ok (.putfield 58, 3) := by decide +kernel
theorem dM_wins_53 : decode bM_wins 53 = .ok (.aload_n 0, 1) := by decide +kernel
theorem dM_wins_54 : decode bM_wins 54 = .ok (.getfield 58, 3) := by decide +kernel
theorem dM_wins_57 : decode bM_wins 57 = .ok (.ifCond .le 5, 3) := by decide +kernel
theorem dM_wins_60 : decode bM_wins 60 = .ok (.iconst 0, 1) := by decide +kernel
theorem dM_wins_61 : decode bM_wins 61 = .ok (.ireturn, 1) := by decide +kernel
theorem dM_wins_62 : decode bM_wins 62 = .ok (.aload_n 0, 1) := by decide +kernel
theorem dM_wins_63 : decode bM_wins 63 = .ok (.invokevirtual 146, 3) := by decide +kernel
theorem dM_wins_66 : decode bM_wins 66 = .ok (.iload_n 2, 1) := by decide +kernel
theorem dM_wins_67 : decode bM_wins 67 = .ok (.ifCond .ne 12, 3) := by decide +kernel
theorem dM_wins_70 : decode bM_wins 70 = .ok (.aload_n 0, 1) := by decide +kernel
theorem dM_wins_71 : decode bM_wins 71 = .ok (.getfield 31, 3) := by decide +kernel
theorem dM_wins_74 : decode bM_wins 74 = .ok (.iload_n 1, 1) := by decide +kernel
theorem dM_wins_75 : decode bM_wins 75 = .ok (.iaload, 1) := by decide +kernel
theorem dM_wins_76 : decode bM_wins 76 = .ok (.goto 9, 3) := by decide +kernel
theorem dM_wins_79 : decode bM_wins 79 = .ok (.aload_n 0, 1) := by decide +kernel
theorem dM_wins_80 : decode bM_wins 80 = .ok (.getfield 34, 3) := by decide +kernel
theorem dM_wins_83 : decode bM_wins 83 = .ok (.iload_n 1, 1) := by decide +kernel
theorem dM_wins_84 : decode bM_wins 84 = .ok (.iaload, 1) := by decide +kernel
theorem dM_wins_85 : decode bM_wins 85 = .ok (.ireturn, 1) := by decide +kernel
abbrev bM_countAll : ByteArray := prog_3_method_36_code
def yM_countAll : MethodName := ⟨"HandTablesModel", "countAll", "()V"⟩
theorem dM_countAll_0 : decode bM_countAll 0 = .ok (.aload_n 0, 1) := by decide +kernel
theorem dM_countAll_1 : decode bM_countAll 1 = .ok (.getfield 111, 3) := by decide +kernel
theorem dM_countAll_4 : decode bM_countAll 4 = .ok (.ifCond .eq 4, 3) := by decide +kernel
theorem dM_countAll_7 : decode bM_countAll 7 = .ok (.return_, 1) := by decide +kernel
theorem dM_countAll_8 : decode bM_countAll 8 = .ok (.aload_n 0, 1) := by decide +kernel
theorem dM_countAll_9 : decode bM_countAll 9 = .ok (.iconst 1, 1) := by decide +kernel
theorem dM_countAll_10 : decode bM_countAll 10 = .ok (.putfield 111, 3) := by decide +kernel
theorem dM_countAll_13 : decode bM_countAll 13 = .ok (.aload_n 0, 1) := by decide +kernel
theorem dM_countAll_14 : decode bM_countAll 14 = .ok (.iconst 0, 1) := by decide +kernel
theorem dM_countAll_15 : decode bM_countAll 15 = .ok (.putfield 136, 3) := by decide +kernel
theorem dM_countAll_18 : decode bM_countAll 18 = .ok (.iconst 0, 1) := by decide +kernel
theorem dM_countAll_19 : decode bM_countAll 19 = .ok (.istore_n 1, 1) := by decide +kernel
theorem dM_countAll_20 : decode bM_countAll 20 = .ok (.iload_n 1, 1) := by decide +kernel
theorem dM_countAll_21 : decode bM_countAll 21 = .ok (.bipush 6, 2) := by decide +kernel
theorem dM_countAll_23 : decode bM_countAll 23 = .ok (.if_icmp .ge 23, 3) := by decide +kernel
theorem dM_countAll_26 : decode bM_countAll 26 = .ok (.aload_n 0, 1) := by decide +kernel
theorem dM_countAll_27 : decode bM_countAll 27 = .ok (.getfield 31, 3) := by decide +kernel
theorem dM_countAll_30 : decode bM_countAll 30 = .ok (.iload_n 1, 1) := by decide +kernel
theorem dM_countAll_31 : decode bM_countAll 31 = .ok (.iconst 0, 1) := by decide +kernel
theorem dM_countAll_32 : decode bM_countAll 32 = .ok (.iastore, 1) := by decide +kernel
theorem dM_countAll_33 : decode bM_countAll 33 = .ok (.aload_n 0, 1) := by decide +kernel
theorem dM_countAll_34 : decode bM_countAll 34 = .ok (.getfield 34, 3) := by decide +kernel
theorem dM_countAll_37 : decode bM_countAll 37 = .ok (.iload_n 1, 1) := by decide +kernel
theorem dM_countAll_38 : decode bM_countAll 38 = .ok (.iconst 0, 1) := by decide +kernel
theorem dM_countAll_39 : decode bM_countAll 39 = .ok (.iastore, 1) := by decide +kernel
theorem dM_countAll_40 : decode bM_countAll 40 = .ok (.iinc 1 1, 3) := by decide +kernel
theorem dM_countAll_43 : decode bM_countAll 43 = .ok (.goto (-23), 3) := by decide +kernel
theorem dM_countAll_46 : decode bM_countAll 46 = .ok (.aload_n 0, 1) := by decide +kernel
theorem dM_countAll_47 : decode bM_countAll 47 = .ok (.invokevirtual 139, 3) := by decide +kernel
theorem dM_countAll_50 : decode bM_countAll 50 = .ok (.aload_n 0, 1) := by decide +kernel
theorem dM_countAll_51 : decode bM_countAll 51 = .ok (.getfield 97, 3) := by decide +kernel
theorem dM_countAll_54 : decode bM_countAll 54 = .ok (.iconst 5, 1) := by decide +kernel
theorem dM_countAll_55 : decode bM_countAll 55 = .ok (.if_icmp .ne 9, 3) := by decide +kernel
theorem dM_countAll_58 : decode bM_countAll 58 = .ok (.aload_n 0, 1) := by decide +kernel
theorem dM_countAll_59 : decode bM_countAll 59 = .ok (.iconst (-1), 1) := by decide +kernel
theorem dM_countAll_60 : decode bM_countAll 60 = .ok (.iconst (-1), 1) := by decide +kernel
theorem dM_countAll_61 : decode bM_countAll 61 = .ok (.invokevirtual 142, 3) := by decide +kernel
theorem dM_countAll_64 : decode bM_countAll 64 = .ok (.iconst 0, 1) := by decide +kernel
theorem dM_countAll_65 : decode bM_countAll 65 = .ok (.istore_n 1, 1) := by decide +kernel
theorem dM_countAll_66 : decode bM_countAll 66 = .ok (.iload_n 1, 1) := by decide +kernel
theorem dM_countAll_67 : decode bM_countAll 67 = .ok (.aload_n 0, 1) := by decide +kernel
theorem dM_countAll_68 : decode bM_countAll 68 = .ok (.getfield 133, 3) := by decide +kernel
theorem dM_countAll_71 : decode bM_countAll 71 = .ok (.if_icmp .ge 78, 3) := by decide +kernel
theorem dM_countAll_74 : decode bM_countAll 74 = .ok (.aload_n 0, 1) := by decide +kernel
theorem dM_countAll_75 : decode bM_countAll 75 = .ok (.getfield 97, 3) := by decide +kernel
theorem dM_countAll_78 : decode bM_countAll 78 = .ok (.iconst 5, 1) := by decide +kernel
theorem dM_countAll_79 : decode bM_countAll 79 = .ok (.if_icmp .ge 70, 3) := by decide +kernel
theorem dM_countAll_82 : decode bM_countAll 82 = .ok (.aload_n 0, 1) := by decide +kernel
theorem dM_countAll_83 : decode bM_countAll 83 = .ok (.getfield 97, 3) := by decide +kernel
theorem dM_countAll_86 : decode bM_countAll 86 = .ok (.iconst 4, 1) := by decide +kernel
theorem dM_countAll_87 : decode bM_countAll 87 = .ok (.if_icmp .ne 14, 3) := by decide +kernel
theorem dM_countAll_90 : decode bM_countAll 90 = .ok (.aload_n 0, 1) := by decide +kernel
theorem dM_countAll_91 : decode bM_countAll 91 = .ok (.aload_n 0, 1) := by decide +kernel
theorem dM_countAll_92 : decode bM_countAll 92 = .ok (.getfield 37, 3) := by decide +kernel
theorem dM_countAll_95 : decode bM_countAll 95 = .ok (.iload_n 1, 1) := by decide +kernel
theorem dM_countAll_96 : decode bM_countAll 96 = .ok (.iaload, 1) := by decide +kernel
theorem dM_countAll_97 : decode bM_countAll 97 = .ok (.iconst (-1), 1) := by decide +kernel
theorem dM_countAll_98 : decode bM_countAll 98 = .ok (.invokevirtual 142, 3) := by decide +kernel
theorem dM_countAll_101 : decode bM_countAll 101 = .ok (.iload_n 1, 1) := by decide +kernel
theorem dM_countAll_102 : decode bM_countAll 102 = .ok (.iconst 1, 1) := by decide +kernel
theorem dM_countAll_103 : decode bM_countAll 103 = .ok (.iadd, 1) := by decide +kernel
theorem dM_countAll_104 : decode bM_countAll 104 = .ok (.istore_n 2, 1) := by decide +kernel
theorem dM_countAll_105 : decode bM_countAll 105 = .ok (.iload_n 2, 1) := by decide +kernel
theorem dM_countAll_106 : decode bM_countAll 106 = .ok (.aload_n 0, 1) := by decide +kernel
theorem dM_countAll_107 : decode bM_countAll 107 = .ok (.getfield 133, 3) := by decide +kernel
theorem dM_countAll_110 : decode bM_countAll 110 = .ok (.if_icmp .ge 33, 3) := by decide +kernel
theorem dM_countAll_113 : decode bM_countAll 113 = .ok (.aload_n 0, 1) := by decide +kernel
theorem dM_countAll_114 : decode bM_countAll 114 = .ok (.getfield 97, 3) := by decide +kernel
theorem dM_countAll_117 : decode bM_countAll 117 = .ok (.iconst 3, 1) := by decide +kernel
theorem dM_countAll_118 : decode bM_countAll 118 = .ok (.if_icmp .ne 25, 3) := by decide +kernel
theorem dM_countAll_121 : decode bM_countAll 121 = .ok (.aload_n 0, 1) := by decide +kernel
theorem dM_countAll_122 : decode bM_countAll 122 = .ok (.aload_n 0, 1) := by decide +kernel
theorem dM_countAll_123 : decode bM_countAll 123 = .ok (.getfield 37, 3) := by decide +kernel
theorem dM_countAll_126 : decode bM_countAll 126 = .ok (.iload_n 1, 1) := by decide +kernel
theorem dM_countAll_127 : decode bM_countAll 127 = .ok (.iaload, 1) := by decide +kernel
theorem dM_countAll_128 : decode bM_countAll 128 = .ok (.aload_n 0, 1) := by decide +kernel
theorem dM_countAll_129 : decode bM_countAll 129 = .ok (.getfield 37, 3) := by decide +kernel
theorem dM_countAll_132 : decode bM_countAll 132 = .ok (.iload_n 2, 1) := by decide +kernel
theorem dM_countAll_133 : decode bM_countAll 133 = .ok (.iaload, 1) := by decide +kernel
theorem dM_countAll_134 : decode bM_countAll 134 = .ok (.invokevirtual 142, 3) := by decide +kernel
theorem dM_countAll_137 : decode bM_countAll 137 = .ok (.iinc 2 1, 3) := by decide +kernel
theorem dM_countAll_140 : decode bM_countAll 140 = .ok (.goto (-35), 3) := by decide +kernel
theorem dM_countAll_143 : decode bM_countAll 143 = .ok (.iinc 1 1, 3) := by decide +kernel
theorem dM_countAll_146 : decode bM_countAll 146 = .ok (.goto (-80), 3) := by decide +kernel
theorem dM_countAll_149 : decode bM_countAll 149 = .ok (.return_, 1) := by decide +kernel
abbrev bM_countBoard : ByteArray := prog_3_method_35_code
def yM_countBoard : MethodName := ⟨"HandTablesModel", "countBoard", "(II)V"⟩
theorem dM_countBoard_0 : decode bM_countBoard 0 = .ok (.aload_n 0, 1) := by decide +kernel
theorem dM_countBoard_1 : decode bM_countBoard 1 = .ok (.dup, 1) := by decide +kernel
theorem dM_countBoard_2 : decode bM_countBoard 2 = .ok (.getfield 136, 3) := by decide +kernel
theorem dM_countBoard_5 : decode bM_countBoard 5 = .ok (.iconst 1, 1) := by decide +kernel
theorem dM_countBoard_6 : decode bM_countBoard 6 = .ok (.iadd, 1) := by decide +kernel
theorem dM_countBoard_7 : decode bM_countBoard 7 = .ok (.putfield 136, 3) := by decide +kernel
theorem dM_countBoard_10 : decode bM_countBoard 10 = .ok (.aload_n 0, 1) := by decide +kernel
theorem dM_countBoard_11 : decode bM_countBoard 11 = .ok (.iload_n 1, 1) := by decide +kernel
theorem dM_countBoard_12 : decode bM_countBoard 12 = .ok (.iload_n 2, 1) := by decide +kernel
theorem dM_countBoard_13 : decode bM_countBoard 13 = .ok (.invokevirtual 129, 3) := by decide +kernel
theorem dM_countBoard_16 : decode bM_countBoard 16 = .ok (.istore_n 3, 1) := by decide +kernel
theorem dM_countBoard_17 : decode bM_countBoard 17 = .ok (.iload_n 3, 1) := by decide +kernel
theorem dM_countBoard_18 : decode bM_countBoard 18 = .ok (.iload_n 3, 1) := by decide +kernel
theorem dM_countBoard_19 : decode bM_countBoard 19 = .ok (.iconst 1, 1) := by decide +kernel
theorem dM_countBoard_20 : decode bM_countBoard 20 = .ok (.isub, 1) := by decide +kernel
theorem dM_countBoard_21 : decode bM_countBoard 21 = .ok (.iand, 1) := by decide +kernel
theorem dM_countBoard_22 : decode bM_countBoard 22 = .ok (.ifCond .ne 7, 3) := by decide +kernel
theorem dM_countBoard_25 : decode bM_countBoard 25 = .ok (.iconst 1, 1) := by decide +kernel
theorem dM_countBoard_26 : decode bM_countBoard 26 = .ok (.goto 4, 3) := by decide +kernel
theorem dM_countBoard_29 : decode bM_countBoard 29 = .ok (.iconst 0, 1) := by decide +kernel
theorem dM_countBoard_30 : decode bM_countBoard 30 = .ok (.istore 4, 2) := by decide +kernel
theorem dM_countBoard_32 : decode bM_countBoard 32 = .ok (.iconst 0, 1) := by decide +kernel
theorem dM_countBoard_33 : decode bM_countBoard 33 = .ok (.istore 5, 2) := by decide +kernel
theorem dM_countBoard_35 : decode bM_countBoard 35 = .ok (.iload 5, 2) := by decide +kernel
theorem dM_countBoard_37 : decode bM_countBoard 37 = .ok (.bipush 6, 2) := by decide +kernel
theorem dM_countBoard_39 : decode bM_countBoard 39 = .ok (.if_icmp .ge 59, 3) := by decide +kernel
theorem dM_countBoard_42 : decode bM_countBoard 42 = .ok (.iload_n 3, 1) := by decide +kernel
theorem dM_countBoard_43 : decode bM_countBoard 43 = .ok (.iload 5, 2) := by decide +kernel
theorem dM_countBoard_45 : decode bM_countBoard 45 = .ok (.ishr, 1) := by decide +kernel
theorem dM_countBoard_46 : decode bM_countBoard 46 = .ok (.iconst 1, 1) := by decide +kernel
theorem dM_countBoard_47 : decode bM_countBoard 47 = .ok (.iand, 1) := by decide +kernel
theorem dM_countBoard_48 : decode bM_countBoard 48 = .ok (.iconst 1, 1) := by decide +kernel
theorem dM_countBoard_49 : decode bM_countBoard 49 = .ok (.if_icmp .ne 22, 3) := by decide +kernel
theorem dM_countBoard_52 : decode bM_countBoard 52 = .ok (.iload 4, 2) := by decide +kernel
theorem dM_countBoard_54 : decode bM_countBoard 54 = .ok (.ifCond .eq 17, 3) := by decide +kernel
theorem dM_countBoard_57 : decode bM_countBoard 57 = .ok (.aload_n 0, 1) := by decide +kernel
theorem dM_countBoard_58 : decode bM_countBoard 58 = .ok (.getfield 31, 3) := by decide +kernel
theorem dM_countBoard_61 : decode bM_countBoard 61 = .ok (.iload 5, 2) := by decide +kernel
theorem dM_countBoard_63 : decode bM_countBoard 63 = .ok (.dup2, 1) := by decide +kernel
theorem dM_countBoard_64 : decode bM_countBoard 64 = .ok (.iaload, 1) := by decide +kernel
theorem dM_countBoard_65 : decode bM_countBoard 65 = .ok (.iconst 1, 1) := by decide +kernel
theorem dM_countBoard_66 : decode bM_countBoard 66 = .ok (.iadd, 1) := by decide +kernel
theorem dM_countBoard_67 : decode bM_countBoard 67 = .ok (.iastore, 1) := by decide +kernel
theorem dM_countBoard_68 : decode bM_countBoard 68 = .ok (.goto 24, 3) := by decide +kernel
theorem dM_countBoard_71 : decode bM_countBoard 71 = .ok (.iload_n 3, 1) := by decide +kernel
theorem dM_countBoard_72 : decode bM_countBoard 72 = .ok (.iload 5, 2) := by decide +kernel
theorem dM_countBoard_74 : decode bM_countBoard 74 = .ok (.ishr, 1) := by decide +kernel
theorem dM_countBoard_75 : decode bM_countBoard 75 = .ok (.iconst 1, 1) := by decide +kernel
theorem dM_countBoard_76 : decode bM_countBoard 76 = .ok (.iand, 1) := by decide +kernel
theorem dM_countBoard_77 : decode bM_countBoard 77 = .ok (.iconst 1, 1) := by decide +kernel
theorem dM_countBoard_78 : decode bM_countBoard 78 = .ok (.if_icmp .ne 14, 3) := by decide +kernel
theorem dM_countBoard_81 : decode bM_countBoard 81 = .ok (.aload_n 0, 1) := by decide +kernel
theorem dM_countBoard_82 : decode bM_countBoard 82 = .ok (.getfield 34, 3) := by decide +kernel
theorem dM_countBoard_85 : decode bM_countBoard 85 = .ok (.iload 5, 2) := by decide +kernel
theorem dM_countBoard_87 : decode bM_countBoard 87 = .ok (.dup2, 1) := by decide +kernel
theorem dM_countBoard_88 : decode bM_countBoard 88 = .ok (.iaload, 1) := by decide +kernel
theorem dM_countBoard_89 : decode bM_countBoard 89 = .ok (.iconst 1, 1) := by decide +kernel
theorem dM_countBoard_90 : decode bM_countBoard 90 = .ok (.iadd, 1) := by decide +kernel
theorem dM_countBoard_91 : decode bM_countBoard 91 = .ok (.iastore, 1) := by decide +kernel
theorem dM_countBoard_92 : decode bM_countBoard 92 = .ok (.iinc 5 1, 3) := by decide +kernel
theorem dM_countBoard_95 : decode bM_countBoard 95 = .ok (.goto (-60), 3) := by decide +kernel
theorem dM_countBoard_98 : decode bM_countBoard 98 = .ok (.return_, 1) := by decide +kernel
abbrev bM_outs : ByteArray := prog_3_method_39_code
def yM_outs : MethodName := ⟨"HandTablesModel", "outs", "(I)J"⟩
theorem dM_outs_0 : decode bM_outs 0 = .ok (.aload_n 0, 1) := by decide +kernel
theorem dM_outs_1 : decode bM_outs 1 = .ok (.iload_n 1, 1) := by decide +kernel
theorem dM_outs_2 : decode bM_outs 2 = .ok (.invokestatic 100, 3) := by decide +kernel
theorem dM_outs_5 : decode bM_outs 5 = .ok (.ifCond .eq 7, 3) := by decide +kernel
theorem dM_outs_8 : decode bM_outs 8 = .ok (.iconst 1, 1) := by decide +kernel
theorem dM_outs_9 : decode bM_outs 9 = .ok (.goto 36, 3) := by decide +kernel
theorem dM_outs_12 : decode bM_outs 12 = .ok (.aload_n 0, 1) := by decide +kernel
theorem dM_outs_13 : decode bM_outs 13 = .ok (.getfield 22, 3) := by decide +kernel
theorem dM_outs_16 : decode bM_outs 16 = .ok (.iconst 2, 1) := by decide +kernel
theorem dM_outs_17 : decode bM_outs 17 = .ok (.iload_n 1, 1) := by decide +kernel
theorem dM_outs_18 : decode bM_outs 18 = .ok (.imul, 1) := by decide +kernel
theorem dM_outs_19 : decode bM_outs 19 = .ok (.iaload, 1) := by decide +kernel
theorem dM_outs_20 : decode bM_outs 20 = .ok (.iconst (-1), 1) := by decide +kernel
theorem dM_outs_21 : decode bM_outs 21 = .ok (.if_icmp .eq 19, 3) := by decide +kernel
theorem dM_outs_24 : decode bM_outs 24 = .ok (.aload_n 0, 1) := by decide +kernel
theorem dM_outs_25 : decode bM_outs 25 = .ok (.getfield 97, 3) := by decide +kernel
theorem dM_outs_28 : decode bM_outs 28 = .ok (.iconst 3, 1) := by decide +kernel
theorem dM_outs_29 : decode bM_outs 29 = .ok (.if_icmp .lt 11, 3) := by decide +kernel
theorem dM_outs_32 : decode bM_outs 32 = .ok (.aload_n 0, 1) := by decide +kernel
theorem dM_outs_33 : decode bM_outs 33 = .ok (.getfield 97, 3) := by decide +kernel
theorem dM_outs_36 : decode bM_outs 36 = .ok (.iconst 4, 1) := by decide +kernel
theorem dM_outs_37 : decode bM_outs 37 = .ok (.if_icmp .le 7, 3) := by decide +kernel
theorem dM_outs_40 : decode bM_outs 40 = .ok (.iconst 2, 1) := by decide +kernel
theorem dM_outs_41 : decode bM_outs 41 = .ok (.goto 4, 3) := by decide +kernel
theorem dM_outs_44 : decode bM_outs 44 = .ok (.iconst 0, 1) := by decide +kernel
theorem dM_outs_45 : decode bM_outs 45 = .ok (.putfield 58, 3) := by decide +kernel
theorem dM_outs_48 : decode bM_outs 48 = .ok (.aload_n 0, 1) := by decide +kernel
theorem dM_outs_49 : decode bM_outs 49 = .ok (.getfield 58, 3) := by decide +kernel
theorem dM_outs_52 : decode bM_outs 52 = .ok (.ifCond .le 5, 3) := by decide +kernel
theorem dM_outs_55 : decode bM_outs 55 = .ok (.lconst 0, 1) := by decide +kernel
theorem dM_outs_56 : decode bM_outs 56 = .ok (.lreturn, 1) := by decide +kernel
theorem dM_outs_57 : decode bM_outs 57 = .ok (.lconst 0, 1) := by decide +kernel
theorem dM_outs_58 : decode bM_outs 58 = .ok (.lstore_n 2, 1) := by decide +kernel
theorem dM_outs_59 : decode bM_outs 59 = .ok (.iconst 0, 1) := by decide +kernel
theorem dM_outs_60 : decode bM_outs 60 = .ok (.istore 4, 2) := by decide +kernel
theorem dM_outs_62 : decode bM_outs 62 = .ok (.iload 4, 2) := by decide +kernel
theorem dM_outs_64 : decode bM_outs 64 = .ok (.bipush 52, 2) := by decide +kernel
theorem dM_outs_66 : decode bM_outs 66 = .ok (.if_icmp .ge 39, 3) := by decide +kernel
theorem dM_outs_69 : decode bM_outs 69 = .ok (.aload_n 0, 1) := by decide +kernel
theorem dM_outs_70 : decode bM_outs 70 = .ok (.iload 4, 2) := by decide +kernel
theorem dM_outs_72 : decode bM_outs 72 = .ok (.iconst (-1), 1) := by decide +kernel
theorem dM_outs_73 : decode bM_outs 73 = .ok (.invokevirtual 107, 3) := by decide +kernel
theorem dM_outs_76 : decode bM_outs 76 = .ok (.ifCond .ne 23, 3) := by decide +kernel
theorem dM_outs_79 : decode bM_outs 79 = .ok (.aload_n 0, 1) := by decide +kernel
theorem dM_outs_80 : decode bM_outs 80 = .ok (.iload 4, 2) := by decide +kernel
theorem dM_outs_82 : decode bM_outs 82 = .ok (.iconst (-1), 1) := by decide +kernel
theorem dM_outs_83 : decode bM_outs 83 = .ok (.invokevirtual 129, 3) := by decide +kernel
theorem dM_outs_86 : decode bM_outs 86 = .ok (.iconst 1, 1) := by decide +kernel
theorem dM_outs_87 : decode bM_outs 87 = .ok (.iload_n 1, 1) := by decide +kernel
theorem dM_outs_88 : decode bM_outs 88 = .ok (.ishl, 1) := by decide +kernel
theorem dM_outs_89 : decode bM_outs 89 = .ok (.if_icmp .ne 10, 3) := by decide +kernel
theorem dM_outs_92 : decode bM_outs 92 = .ok (.lload_n 2, 1) := by decide +kernel
theorem dM_outs_93 : decode bM_outs 93 = .ok (.lconst 1, 1) := by decide +kernel
theorem dM_outs_94 : decode bM_outs 94 = .ok (.iload 4, 2) := by decide +kernel
theorem dM_outs_96 : decode bM_outs 96 = .ok (.lshl, 1) := by decide +kernel
theorem dM_outs_97 : decode bM_outs 97 = .ok (.lor, 1) := by decide +kernel
theorem dM_outs_98 : decode bM_outs 98 = .ok (.lstore_n 2, 1) := by decide +kernel
theorem dM_outs_99 : decode bM_outs 99 = .ok (.iinc 4 1, 3) := by decide +kernel
theorem dM_outs_102 : decode bM_outs 102 = .ok (.goto (-40), 3) := by decide +kernel
theorem dM_outs_105 : decode bM_outs 105 = .ok (.lload_n 2, 1) := by decide +kernel
theorem dM_outs_106 : decode bM_outs 106 = .ok (.lreturn, 1) := by decide +kernel
abbrev bM_share : ByteArray := prog_3_method_40_code
def yM_share : MethodName := ⟨"HandTablesModel", "share", "(II)I"⟩
theorem dM_share_0 : decode bM_share 0 = .ok (.aload_n 0, 1) := by decide +kernel
theorem dM_share_1 : decode bM_share 1 = .ok (.iload_n 1, 1) := by decide +kernel
theorem dM_share_2 : decode bM_share 2 = .ok (.invokestatic 100, 3) := by decide +kernel
theorem dM_share_5 : decode bM_share 5 = .ok (.ifCond .eq 7, 3) := by decide +kernel
theorem dM_share_8 : decode bM_share 8 = .ok (.iconst 1, 1) := by decide +kernel
theorem dM_share_9 : decode bM_share 9 = .ok (.goto 36, 3) := by decide +kernel
theorem dM_share_12 : decode bM_share 12 = .ok (.iload_n 2, 1) := by decide +kernel
theorem dM_share_13 : decode bM_share 13 = .ok (.ifCond .ge 7, 3) := by decide +kernel
theorem dM_share_16 : decode bM_share 16 = .ok (.iconst 2, 1) := by decide +kernel
theorem dM_share_17 : decode bM_share 17 = .ok (.goto 28, 3) := by decide +kernel
theorem dM_share_20 : decode bM_share 20 = .ok (.aload_n 0, 1) := by decide +kernel
theorem dM_share_21 : decode bM_share 21 = .ok (.getfield 22, 3) := by decide +kernel
theorem dM_share_24 : decode bM_share 24 = .ok (.iconst 2, 1) := by decide +kernel
theorem dM_share_25 : decode bM_share 25 = .ok (.iload_n 1, 1) := by decide +kernel
theorem dM_share_26 : decode bM_share 26 = .ok (.imul, 1) := by decide +kernel
theorem dM_share_27 : decode bM_share 27 = .ok (.iaload, 1) := by decide +kernel
theorem dM_share_28 : decode bM_share 28 = .ok (.iconst (-1), 1) := by decide +kernel
theorem dM_share_29 : decode bM_share 29 = .ok (.if_icmp .eq 11, 3) := by decide +kernel
theorem dM_share_32 : decode bM_share 32 = .ok (.aload_n 0, 1) := by decide +kernel
theorem dM_share_33 : decode bM_share 33 = .ok (.getfield 97, 3) := by decide +kernel
theorem dM_share_36 : decode bM_share 36 = .ok (.iconst 5, 1) := by decide +kernel
theorem dM_share_37 : decode bM_share 37 = .ok (.if_icmp .ge 7, 3) := by decide +kernel
theorem dM_share_40 : decode bM_share 40 = .ok (.iconst 3, 1) := by decide +kernel
theorem dM_share_41 : decode bM_share 41 = .ok (.goto 4, 3) := by decide +kernel
theorem dM_share_44 : decode bM_share 44 = .ok (.iconst 0, 1) := by decide +kernel
theorem dM_share_45 : decode bM_share 45 = .ok (.putfield 58, 3) := by decide +kernel
theorem dM_share_48 : decode bM_share 48 = .ok (.aload_n 0, 1) := by decide +kernel
theorem dM_share_49 : decode bM_share 49 = .ok (.getfield 58, 3) := by decide +kernel
theorem dM_share_52 : decode bM_share 52 = .ok (.ifCond .le 5, 3) := by decide +kernel
theorem dM_share_55 : decode bM_share 55 = .ok (.iconst 0, 1) := by decide +kernel
theorem dM_share_56 : decode bM_share 56 = .ok (.ireturn, 1) := by decide +kernel
theorem dM_share_57 : decode bM_share 57 = .ok (.aload_n 0, 1) := by decide +kernel
theorem dM_share_58 : decode bM_share 58 = .ok (.iconst (-1), 1) := by decide +kernel
theorem dM_share_59 : decode bM_share 59 = .ok (.iconst (-1), 1) := by decide +kernel
theorem dM_share_60 : decode bM_share 60 = .ok (.invokevirtual 129, 3) := by decide +kernel
theorem dM_share_63 : decode bM_share 63 = .ok (.istore_n 3, 1) := by decide +kernel
theorem dM_share_64 : decode bM_share 64 = .ok (.iconst 0, 1) := by decide +kernel
theorem dM_share_65 : decode bM_share 65 = .ok (.istore 4, 2) := by decide +kernel
theorem dM_share_67 : decode bM_share 67 = .ok (.iconst 0, 1) := by decide +kernel
theorem dM_share_68 : decode bM_share 68 = .ok (.istore 5, 2) := by decide +kernel
theorem dM_share_70 : decode bM_share 70 = .ok (.iconst 0, 1) := by decide +kernel
theorem dM_share_71 : decode bM_share 71 = .ok (.istore 6, 2) := by decide +kernel
theorem dM_share_73 : decode bM_share 73 = .ok (.iload 6, 2) := by decide +kernel
theorem dM_share_75 : decode bM_share 75 = .ok (.bipush 6, 2) := by decide +kernel
theorem dM_share_77 : decode bM_share 77 = .ok (.if_icmp .ge 39, 3) := by decide +kernel
theorem dM_share_80 : decode bM_share 80 = .ok (.iload_n 3, 1) := by decide +kernel
theorem dM_share_81 : decode bM_share 81 = .ok (.iload 6, 2) := by decide +kernel
theorem dM_share_83 : decode bM_share 83 = .ok (.ishr, 1) := by decide +kernel
theorem dM_share_84 : decode bM_share 84 = .ok (.iconst 1, 1) := by decide +kernel
theorem dM_share_85 : decode bM_share 85 = .ok (.iand, 1) := by decide +kernel
theorem dM_share_86 : decode bM_share 86 = .ok (.iconst 1, 1) := by decide +kernel
theorem dM_share_87 : decode bM_share 87 = .ok (.if_icmp .ne 23, 3) := by decide +kernel
theorem dM_share_90 : decode bM_share 90 = .ok (.iinc 4 1, 3) := by decide +kernel
theorem dM_share_93 : decode bM_share 93 = .ok (.iload 6, 2) := by decide +kernel
theorem dM_share_95 : decode bM_share 95 = .ok (.iload_n 1, 1) := by decide +kernel
theorem dM_share_96 : decode bM_share 96 = .ok (.if_icmp .ge 10, 3) := by decide +kernel
theorem dM_share_99 : decode bM_share 99 = .ok (.iload 5, 2) := by decide +kernel
theorem dM_share_101 : decode bM_share 101 = .ok (.iconst 1, 1) := by decide +kernel
theorem dM_share_102 : decode bM_share 102 = .ok (.iadd, 1) := by decide +kernel
theorem dM_share_103 : decode bM_share 103 = .ok (.goto 5, 3) := by decide +kernel
theorem dM_share_106 : decode bM_share 106 = .ok (.iload 5, 2) := by decide +kernel
theorem dM_share_108 : decode bM_share 108 = .ok (.istore 5, 2) := by decide +kernel
theorem dM_share_110 : decode bM_share 110 = .ok (.iinc 6 1, 3) := by decide +kernel
theorem dM_share_113 : decode bM_share 113 = .ok (.goto (-40), 3) := by decide +kernel
theorem dM_share_116 : decode bM_share 116 = .ok (.iload_n 3, 1) := by decide +kernel
theorem dM_share_117 : decode bM_share 117 = .ok (.iload_n 1, 1) := by decide +kernel
theorem dM_share_118 : decode bM_share 118 = .ok (.ishr, 1) := by decide +kernel
theorem dM_share_119 : decode bM_share 119 = .ok (.iconst 1, 1) := by decide +kernel
theorem dM_share_120 : decode bM_share 120 = .ok (.iand, 1) := by decide +kernel
theorem dM_share_121 : decode bM_share 121 = .ok (.ifCond .ne 5, 3) := by decide +kernel
theorem dM_share_124 : decode bM_share 124 = .ok (.iconst 0, 1) := by decide +kernel
theorem dM_share_125 : decode bM_share 125 = .ok (.ireturn, 1) := by decide +kernel
theorem dM_share_126 : decode bM_share 126 = .ok (.iload 5, 2) := by decide +kernel
theorem dM_share_128 : decode bM_share 128 = .ok (.iload_n 2, 1) := by decide +kernel
theorem dM_share_129 : decode bM_share 129 = .ok (.iload 4, 2) := by decide +kernel
theorem dM_share_131 : decode bM_share 131 = .ok (.irem, 1) := by decide +kernel
theorem dM_share_132 : decode bM_share 132 = .ok (.if_icmp .ge 12, 3) := by decide +kernel
theorem dM_share_135 : decode bM_share 135 = .ok (.iload_n 2, 1) := by decide +kernel
theorem dM_share_136 : decode bM_share 136 = .ok (.iload 4, 2) := by decide +kernel
theorem dM_share_138 : decode bM_share 138 = .ok (.idiv, 1) := by decide +kernel
theorem dM_share_139 : decode bM_share 139 = .ok (.iconst 1, 1) := by decide +kernel
theorem dM_share_140 : decode bM_share 140 = .ok (.iadd, 1) := by decide +kernel
theorem dM_share_141 : decode bM_share 141 = .ok (.goto 7, 3) := by decide +kernel
theorem dM_share_144 : decode bM_share 144 = .ok (.iload_n 2, 1) := by decide +kernel
theorem dM_share_145 : decode bM_share 145 = .ok (.iload 4, 2) := by decide +kernel
theorem dM_share_147 : decode bM_share 147 = .ok (.idiv, 1) := by decide +kernel
theorem dM_share_148 : decode bM_share 148 = .ok (.ireturn, 1) := by decide +kernel
abbrev bM_shuffle : ByteArray := prog_3_method_42_code
def yM_shuffle : MethodName := ⟨"HandTablesModel", "shuffle", "(I)V"⟩
theorem dM_shuffle_0 : decode bM_shuffle 0 = .ok (.aload_n 0, 1) := by decide +kernel
theorem dM_shuffle_1 : decode bM_shuffle 1 = .ok (.iconst 0, 1) := by decide +kernel
theorem dM_shuffle_2 : decode bM_shuffle 2 = .ok (.putfield 58, 3) := by decide +kernel
theorem dM_shuffle_5 : decode bM_shuffle 5 = .ok (.aload_n 0, 1) := by decide +kernel
theorem dM_shuffle_6 : decode bM_shuffle 6 = .ok (.invokevirtual 55, 3) := by decide +kernel
theorem dM_shuffle_9 : decode bM_shuffle 9 = .ok (.iload_n 1, 1) := by decide +kernel
theorem dM_shuffle_10 : decode bM_shuffle 10 = .ok (.istore_n 2, 1) := by decide +kernel
theorem dM_shuffle_11 : decode bM_shuffle 11 = .ok (.bipush 51, 2) := by decide +kernel
theorem dM_shuffle_13 : decode bM_shuffle 13 = .ok (.istore_n 3, 1) := by decide +kernel
theorem dM_shuffle_14 : decode bM_shuffle 14 = .ok (.iload_n 3, 1) := by decide +kernel
theorem dM_shuffle_15 : decode bM_shuffle 15 = .ok (.ifCond .le 61, 3) := by decide +kernel
theorem dM_shuffle_18 : decode bM_shuffle 18 = .ok (.iload_n 2, 1) := by decide +kernel
theorem dM_shuffle_19 : decode bM_shuffle 19 = .ok (.ldc 152, 2) := by decide +kernel
theorem dM_shuffle_21 : decode bM_shuffle 21 = .ok (.imul, 1) := by decide +kernel
theorem dM_shuffle_22 : decode bM_shuffle 22 = .ok (.sipush 12345, 3) := by decide +kernel
theorem dM_shuffle_25 : decode bM_shuffle 25 = .ok (.iadd, 1) := by decide +kernel
theorem dM_shuffle_26 : decode bM_shuffle 26 = .ok (.istore_n 2, 1) := by decide +kernel
theorem dM_shuffle_27 : decode bM_shuffle 27 = .ok (.iload_n 2, 1) := by decide +kernel
theorem dM_shuffle_28 : decode bM_shuffle 28 = .ok (.ldc 153, 2) := by decide +kernel
theorem dM_shuffle_30 : decode bM_shuffle 30 = .ok (.iand, 1) := by decide +kernel
theorem dM_shuffle_31 : decode bM_shuffle 31 = .ok (.bipush 8, 2) := by decide +kernel
theorem dM_shuffle_33 : decode bM_shuffle 33 = .ok (.ishr, 1) := by decide +kernel
theorem dM_shuffle_34 : decode bM_shuffle 34 = .ok (.iload_n 3, 1) := by decide +kernel
theorem dM_shuffle_35 : decode bM_shuffle 35 = .ok (.iconst 1, 1) := by decide +kernel
theorem dM_shuffle_36 : decode bM_shuffle 36 = .ok (.iadd, 1) := by decide +kernel
theorem dM_shuffle_37 : decode bM_shuffle 37 = .ok (.irem, 1) := by decide +kernel
theorem dM_shuffle_38 : decode bM_shuffle 38 = .ok (.istore 4, 2) := by decide +kernel
theorem dM_shuffle_40 : decode bM_shuffle 40 = .ok (.aload_n 0, 1) := by decide +kernel
theorem dM_shuffle_41 : decode bM_shuffle 41 = .ok (.getfield 28, 3) := by decide +kernel
theorem dM_shuffle_44 : decode bM_shuffle 44 = .ok (.iload_n 3, 1) := by decide +kernel
theorem dM_shuffle_45 : decode bM_shuffle 45 = .ok (.iaload, 1) := by decide +kernel
theorem dM_shuffle_46 : decode bM_shuffle 46 = .ok (.istore 5, 2) := by decide +kernel
theorem dM_shuffle_48 : decode bM_shuffle 48 = .ok (.aload_n 0, 1) := by decide +kernel
theorem dM_shuffle_49 : decode bM_shuffle 49 = .ok (.getfield 28, 3) := by decide +kernel
theorem dM_shuffle_52 : decode bM_shuffle 52 = .ok (.iload_n 3, 1) := by decide +kernel
theorem dM_shuffle_53 : decode bM_shuffle 53 = .ok (.aload_n 0, 1) := by decide +kernel
theorem dM_shuffle_54 : decode bM_shuffle 54 = .ok (.getfield 28, 3) := by decide +kernel
theorem dM_shuffle_57 : decode bM_shuffle 57 = .ok (.iload 4, 2) := by decide +kernel
theorem dM_shuffle_59 : decode bM_shuffle 59 = .ok (.iaload, 1) := by decide +kernel
theorem dM_shuffle_60 : decode bM_shuffle 60 = .ok (.iastore, 1) := by decide +kernel
theorem dM_shuffle_61 : decode bM_shuffle 61 = .ok (.aload_n 0, 1) := by decide +kernel
theorem dM_shuffle_62 : decode bM_shuffle 62 = .ok (.getfield 28, 3) := by decide +kernel
theorem dM_shuffle_65 : decode bM_shuffle 65 = .ok (.iload 4, 2) := by decide +kernel
theorem dM_shuffle_67 : decode bM_shuffle 67 = .ok (.iload 5, 2) := by decide +kernel
theorem dM_shuffle_69 : decode bM_shuffle 69 = .ok (.iastore, 1) := by decide +kernel
theorem dM_shuffle_70 : decode bM_shuffle 70 = .ok (.iinc 3 (-1), 3) := by decide +kernel
theorem dM_shuffle_73 : decode bM_shuffle 73 = .ok (.goto (-59), 3) := by decide +kernel
theorem dM_shuffle_76 : decode bM_shuffle 76 = .ok (.return_, 1) := by decide +kernel
abbrev bM_draw : ByteArray := prog_3_method_43_code
def yM_draw : MethodName := ⟨"HandTablesModel", "draw", "()I"⟩
theorem dM_draw_0 : decode bM_draw 0 = .ok (.aload_n 0, 1) := by decide +kernel
theorem dM_draw_1 : decode bM_draw 1 = .ok (.iconst 0, 1) := by decide +kernel
theorem dM_draw_2 : decode bM_draw 2 = .ok (.putfield 58, 3) := by decide +kernel
theorem dM_draw_5 : decode bM_draw 5 = .ok (.aload_n 0, 1) := by decide +kernel
theorem dM_draw_6 : decode bM_draw 6 = .ok (.getfield 149, 3) := by decide +kernel
theorem dM_draw_9 : decode bM_draw 9 = .ok (.bipush 52, 2) := by decide +kernel
theorem dM_draw_11 : decode bM_draw 11 = .ok (.if_icmp .ne 5, 3) := by decide +kernel
theorem dM_draw_14 : decode bM_draw 14 = .ok (.iconst (-1), 1) := by decide +kernel
theorem dM_draw_15 : decode bM_draw 15 = .ok (.ireturn, 1) := by decide +kernel
theorem dM_draw_16 : decode bM_draw 16 = .ok (.aload_n 0, 1) := by decide +kernel
theorem dM_draw_17 : decode bM_draw 17 = .ok (.dup, 1) := by decide +kernel
theorem dM_draw_18 : decode bM_draw 18 = .ok (.getfield 149, 3) := by decide +kernel
theorem dM_draw_21 : decode bM_draw 21 = .ok (.iconst 1, 1) := by decide +kernel
theorem dM_draw_22 : decode bM_draw 22 = .ok (.iadd, 1) := by decide +kernel
theorem dM_draw_23 : decode bM_draw 23 = .ok (.putfield 149, 3) := by decide +kernel
theorem dM_draw_26 : decode bM_draw 26 = .ok (.aload_n 0, 1) := by decide +kernel
theorem dM_draw_27 : decode bM_draw 27 = .ok (.getfield 28, 3) := by decide +kernel
theorem dM_draw_30 : decode bM_draw 30 = .ok (.aload_n 0, 1) := by decide +kernel
theorem dM_draw_31 : decode bM_draw 31 = .ok (.getfield 149, 3) := by decide +kernel
theorem dM_draw_34 : decode bM_draw 34 = .ok (.iconst 1, 1) := by decide +kernel
theorem dM_draw_35 : decode bM_draw 35 = .ok (.isub, 1) := by decide +kernel
theorem dM_draw_36 : decode bM_draw 36 = .ok (.iaload, 1) := by decide +kernel
theorem dM_draw_37 : decode bM_draw 37 = .ok (.ireturn, 1) := by decide +kernel
end
section
/-! the model's static methods -/
def m_noCard (k : Int32) : Int32 := if k < 0 then 1 else if k ≤ 51 then 0 else 1
def m_noSeat (k : Int32) : Int32 := if k < 0 then 1 else if k ≤ 5 then 0 else 1
def m_rowSize (k : Int32) : Int32 := if k = 8 then 1 else if k = 4 then 1 else if k = 7 then 2 else if k = 6 then 2 else if k = 3 then 3 else if k = 2 then 3 else if k = 1 then 4 else 5
set_option maxRecDepth 20000 in
theorem kM_M_isHand : cs_W "HandTablesModel" 80 yM_isHand bM_isHand 4 (some .boolean) 1 := ⟨(gw_mem 526 rfl rfl), (gw_mem 527 rfl rfl), (gw_mem 28 rfl rfl), (gw_mem 528 rfl rfl), by decide +kernel⟩
set_option maxRecDepth 20000 in
theorem kM_M_rowSize : cs_W "HandTablesModel" 94 yM_rowSize bM_rowSize 1 (some .int) 1 := ⟨(gw_mem 557 rfl rfl), (gw_mem 558 rfl rfl), (gw_mem 28 rfl rfl), (gw_mem 559 rfl rfl), by decide +kernel⟩
set_option maxRecDepth 20000 in
theorem kM_M_noSeat : cs_W "HandTablesModel" 100 yM_noSeat bM_noSeat 1 (some .boolean) 1 := ⟨(gw_mem 572 rfl rfl), (gw_mem 573 rfl rfl), (gw_mem 28 rfl rfl), (gw_mem 574 rfl rfl), by decide +kernel⟩
set_option maxRecDepth 20000 in
theorem kM_M_noCard : cs_W "HandTablesModel" 104 yM_noCard bM_noCard 1 (some .boolean) 1 := ⟨(gw_mem 575 rfl rfl), (gw_mem 576 rfl rfl), (gw_mem 28 rfl rfl), (gw_mem 577 rfl rfl), by decide +kernel⟩
set_option maxHeartbeats 4000000 in
set_option maxRecDepth 100000 in
theorem cM_noCard (l : Launch) (k : Int32)  : pu_M l yM_noCard bM_noCard 1 (some .boolean) 0 [.int k] (fun _ => True) (.int (m_noCard k)) := by
  refine Met.ofW (cc := bM_noCard) (maxL := 1) (ret := (some .boolean)) (by decide) rfl ?_
  intro p e s m args below meth c s₁ BB hml hv
  obtain ⟨rfl, hB⟩ := hv
  have hx := BB.exec
  have hb := BB.bytes
  have hr := BB.returns
  have hlk := BB.notSynchronized
  have hts := atoms_spec (ws := wd yM_noCard bM_noCard 1 (some .boolean)) BB.pre
  have hown : s.vm.findClass "HandTablesModel" = some m.cls := findClass_of_methodNamed BB.named
  have hS : CallFix p m c bM_noCard 1 s _ (wd yM_noCard bM_noCard 1 (some .boolean)) "HandTablesModel" := ⟨hx, hb, hml, hown, hts⟩
  have hl := lv_entry ([.int k]) (n := 1) (Nat.le_of_ble_eq_true rfl)
  rw [lg_entry_eq]
  generalize (lg_sl ([.int k]) ++ List.replicate (1 - (lg_sl ([.int k])).length) Slot.unset).toArray = ls at hl ⊢
  have hl : lv_has ls 1 [(0, .int k)] := hl
  refine lv_iload_n hx hb dM_noCard_0 rfl (lv_at hl 0 rfl) ?_
  refine lv_if_lt (tgt := 10) hx hb dM_noCard_1 (by decide) (fun hc1 => ?_) (fun hc1 => ?_)
  · refine lv_iconst (v := 1) hx hb dM_noCard_10 (by decide) ?_
    refine lv_goto (tgt := 15) hx hb dM_noCard_11 (by decide) ?_
    exact pu_zret hx hb hr hlk dM_noCard_15 (by decide) (by first | contradiction | ((try simp only [m_noCard, if_pos hc1]) <;> rfl))
  · refine lv_iload_n hx hb dM_noCard_4 rfl (lv_at hl 0 rfl) ?_
    refine lv_bipush (v := 51) hx hb dM_noCard_5 (by decide) ?_
    refine lv_icmp_le (tgt := 14) hx hb dM_noCard_7 (by decide) (fun hc2 => ?_) (fun hc2 => ?_)
    · refine lv_iconst (v := 0) hx hb dM_noCard_14 (by decide) ?_
      exact pu_zret hx hb hr hlk dM_noCard_15 (by decide) (by first | contradiction | ((try simp only [m_noCard, if_neg hc1, if_pos hc2]) <;> rfl))
    · refine lv_iconst (v := 1) hx hb dM_noCard_10 (by decide) ?_
      refine lv_goto (tgt := 15) hx hb dM_noCard_11 (by decide) ?_
      exact pu_zret hx hb hr hlk dM_noCard_15 (by decide) (by first | contradiction | ((try simp only [m_noCard, if_neg hc1, if_neg hc2]) <;> rfl))
set_option maxHeartbeats 4000000 in
set_option maxRecDepth 100000 in
theorem cM_noSeat (l : Launch) (k : Int32)  : pu_M l yM_noSeat bM_noSeat 1 (some .boolean) 0 [.int k] (fun _ => True) (.int (m_noSeat k)) := by
  refine Met.ofW (cc := bM_noSeat) (maxL := 1) (ret := (some .boolean)) (by decide) rfl ?_
  intro p e s m args below meth c s₁ BB hml hv
  obtain ⟨rfl, hB⟩ := hv
  have hx := BB.exec
  have hb := BB.bytes
  have hr := BB.returns
  have hlk := BB.notSynchronized
  have hts := atoms_spec (ws := wd yM_noSeat bM_noSeat 1 (some .boolean)) BB.pre
  have hown : s.vm.findClass "HandTablesModel" = some m.cls := findClass_of_methodNamed BB.named
  have hS : CallFix p m c bM_noSeat 1 s _ (wd yM_noSeat bM_noSeat 1 (some .boolean)) "HandTablesModel" := ⟨hx, hb, hml, hown, hts⟩
  have hl := lv_entry ([.int k]) (n := 1) (Nat.le_of_ble_eq_true rfl)
  rw [lg_entry_eq]
  generalize (lg_sl ([.int k]) ++ List.replicate (1 - (lg_sl ([.int k])).length) Slot.unset).toArray = ls at hl ⊢
  have hl : lv_has ls 1 [(0, .int k)] := hl
  refine lv_iload_n hx hb dM_noSeat_0 rfl (lv_at hl 0 rfl) ?_
  refine lv_if_lt (tgt := 9) hx hb dM_noSeat_1 (by decide) (fun hc1 => ?_) (fun hc1 => ?_)
  · refine lv_iconst (v := 1) hx hb dM_noSeat_9 (by decide) ?_
    refine lv_goto (tgt := 14) hx hb dM_noSeat_10 (by decide) ?_
    exact pu_zret hx hb hr hlk dM_noSeat_14 (by decide) (by first | contradiction | ((try simp only [m_noSeat, if_pos hc1]) <;> rfl))
  · refine lv_iload_n hx hb dM_noSeat_4 rfl (lv_at hl 0 rfl) ?_
    refine lv_iconst (v := 5) hx hb dM_noSeat_5 (by decide) ?_
    refine lv_icmp_le (tgt := 13) hx hb dM_noSeat_6 (by decide) (fun hc2 => ?_) (fun hc2 => ?_)
    · refine lv_iconst (v := 0) hx hb dM_noSeat_13 (by decide) ?_
      exact pu_zret hx hb hr hlk dM_noSeat_14 (by decide) (by first | contradiction | ((try simp only [m_noSeat, if_neg hc1, if_pos hc2]) <;> rfl))
    · refine lv_iconst (v := 1) hx hb dM_noSeat_9 (by decide) ?_
      refine lv_goto (tgt := 14) hx hb dM_noSeat_10 (by decide) ?_
      exact pu_zret hx hb hr hlk dM_noSeat_14 (by decide) (by first | contradiction | ((try simp only [m_noSeat, if_neg hc1, if_neg hc2]) <;> rfl))
set_option maxHeartbeats 4000000 in
set_option maxRecDepth 100000 in
theorem cM_rowSize (l : Launch) (k : Int32)  : pu_M l yM_rowSize bM_rowSize 1 (some .int) 0 [.int k] (fun _ => True) (.int (m_rowSize k)) := by
  refine Met.ofW (cc := bM_rowSize) (maxL := 1) (ret := (some .int)) (by decide) rfl ?_
  intro p e s m args below meth c s₁ BB hml hv
  obtain ⟨rfl, hB⟩ := hv
  have hx := BB.exec
  have hb := BB.bytes
  have hr := BB.returns
  have hlk := BB.notSynchronized
  have hts := atoms_spec (ws := wd yM_rowSize bM_rowSize 1 (some .int)) BB.pre
  have hown : s.vm.findClass "HandTablesModel" = some m.cls := findClass_of_methodNamed BB.named
  have hS : CallFix p m c bM_rowSize 1 s _ (wd yM_rowSize bM_rowSize 1 (some .int)) "HandTablesModel" := ⟨hx, hb, hml, hown, hts⟩
  have hl := lv_entry ([.int k]) (n := 1) (Nat.le_of_ble_eq_true rfl)
  rw [lg_entry_eq]
  generalize (lg_sl ([.int k]) ++ List.replicate (1 - (lg_sl ([.int k])).length) Slot.unset).toArray = ls at hl ⊢
  have hl : lv_has ls 1 [(0, .int k)] := hl
  refine lv_iload_n hx hb dM_rowSize_0 rfl (lv_at hl 0 rfl) ?_
  refine lv_bipush (v := 8) hx hb dM_rowSize_1 (by decide) ?_
  refine lv_icmp_eq (tgt := 11) hx hb dM_rowSize_3 (by decide) (fun hc1 => ?_) (fun hc1 => ?_)
  · refine lv_iconst (v := 1) hx hb dM_rowSize_11 (by decide) ?_
    refine lv_goto (tgt := 55) hx hb dM_rowSize_12 (by decide) ?_
    exact pu_iret hx hb hr hlk dM_rowSize_55 (by first | contradiction | ((try simp only [m_rowSize, if_pos hc1]) <;> rfl))
  · refine lv_iload_n hx hb dM_rowSize_6 rfl (lv_at hl 0 rfl) ?_
    refine lv_iconst (v := 4) hx hb dM_rowSize_7 (by decide) ?_
    refine lv_icmp_ne (tgt := 15) hx hb dM_rowSize_8 (by decide) (fun hc2 => ?_) (fun hc2 => ?_)
    · refine lv_iload_n hx hb dM_rowSize_15 rfl (lv_at hl 0 rfl) ?_
      refine lv_bipush (v := 7) hx hb dM_rowSize_16 (by decide) ?_
      refine lv_icmp_eq (tgt := 27) hx hb dM_rowSize_18 (by decide) (fun hc3 => ?_) (fun hc3 => ?_)
      · refine lv_iconst (v := 2) hx hb dM_rowSize_27 (by decide) ?_
        refine lv_goto (tgt := 55) hx hb dM_rowSize_28 (by decide) ?_
        exact pu_iret hx hb hr hlk dM_rowSize_55 (by first | contradiction | ((try simp only [m_rowSize, if_neg hc1, if_neg hc2, if_pos hc3]) <;> rfl))
      · refine lv_iload_n hx hb dM_rowSize_21 rfl (lv_at hl 0 rfl) ?_
        refine lv_bipush (v := 6) hx hb dM_rowSize_22 (by decide) ?_
        refine lv_icmp_ne (tgt := 31) hx hb dM_rowSize_24 (by decide) (fun hc4 => ?_) (fun hc4 => ?_)
        · refine lv_iload_n hx hb dM_rowSize_31 rfl (lv_at hl 0 rfl) ?_
          refine lv_iconst (v := 3) hx hb dM_rowSize_32 (by decide) ?_
          refine lv_icmp_eq (tgt := 41) hx hb dM_rowSize_33 (by decide) (fun hc5 => ?_) (fun hc5 => ?_)
          · refine lv_iconst (v := 3) hx hb dM_rowSize_41 (by decide) ?_
            refine lv_goto (tgt := 55) hx hb dM_rowSize_42 (by decide) ?_
            exact pu_iret hx hb hr hlk dM_rowSize_55 (by first | contradiction | ((try simp only [m_rowSize, if_neg hc1, if_neg hc2, if_neg hc3, if_neg hc4, if_pos hc5]) <;> rfl))
          · refine lv_iload_n hx hb dM_rowSize_36 rfl (lv_at hl 0 rfl) ?_
            refine lv_iconst (v := 2) hx hb dM_rowSize_37 (by decide) ?_
            refine lv_icmp_ne (tgt := 45) hx hb dM_rowSize_38 (by decide) (fun hc6 => ?_) (fun hc6 => ?_)
            · refine lv_iload_n hx hb dM_rowSize_45 rfl (lv_at hl 0 rfl) ?_
              refine lv_iconst (v := 1) hx hb dM_rowSize_46 (by decide) ?_
              refine lv_icmp_ne (tgt := 54) hx hb dM_rowSize_47 (by decide) (fun hc7 => ?_) (fun hc7 => ?_)
              · refine lv_iconst (v := 5) hx hb dM_rowSize_54 (by decide) ?_
                exact pu_iret hx hb hr hlk dM_rowSize_55 (by first | contradiction | ((try simp only [m_rowSize, if_neg hc1, if_neg hc2, if_neg hc3, if_neg hc4, if_neg hc5, if_neg hc6, if_neg hc7]) <;> rfl))
              · refine lv_iconst (v := 4) hx hb dM_rowSize_50 (by decide) ?_
                refine lv_goto (tgt := 55) hx hb dM_rowSize_51 (by decide) ?_
                exact pu_iret hx hb hr hlk dM_rowSize_55 (by first | contradiction | ((try simp only [m_rowSize, if_neg hc1, if_neg hc2, if_neg hc3, if_neg hc4, if_neg hc5, if_neg hc6, if_pos hc7]) <;> rfl))
            · refine lv_iconst (v := 3) hx hb dM_rowSize_41 (by decide) ?_
              refine lv_goto (tgt := 55) hx hb dM_rowSize_42 (by decide) ?_
              exact pu_iret hx hb hr hlk dM_rowSize_55 (by first | contradiction | ((try simp only [m_rowSize, if_neg hc1, if_neg hc2, if_neg hc3, if_neg hc4, if_neg hc5, if_pos hc6]) <;> rfl))
        · refine lv_iconst (v := 2) hx hb dM_rowSize_27 (by decide) ?_
          refine lv_goto (tgt := 55) hx hb dM_rowSize_28 (by decide) ?_
          exact pu_iret hx hb hr hlk dM_rowSize_55 (by first | contradiction | ((try simp only [m_rowSize, if_neg hc1, if_neg hc2, if_neg hc3, if_pos hc4]) <;> rfl))
    · refine lv_iconst (v := 1) hx hb dM_rowSize_11 (by decide) ?_
      refine lv_goto (tgt := 55) hx hb dM_rowSize_12 (by decide) ?_
      exact pu_iret hx hb hr hlk dM_rowSize_55 (by first | contradiction | ((try simp only [m_rowSize, if_neg hc1, if_pos hc2]) <;> rfl))
end
section
/-! the model as an object: its cells; contracts of its methods and their calls -/
abbrev mS : Type := Int32 × (Nat → Int32) × Int32 × (Nat → Int32) × (Nat → Int32) × (Nat → Int32) × Int32 × (Nat → Int32) × (Nat → Int32) × Int32 × (Nat → Int32) × Int32 × Int32 × Int32 × (Nat → Int32) × (Nat → Int32) × (Nat → Int32) × Int32 × Int32 × Int32
/-- where the model lies: the tables' numbers, the class of int arrays, the object (0) and its ten arrays -/
abbrev mo_E : Type := va_G × ClassId × (Nat → Nat)
abbrev mo_V (g : mo_E) (th : Int32) (ks : Nat → Int32) (kc : Int32) (rn : Nat → Int32) (oc : Nat → Int32) (hd : Nat → Int32) (hs : Int32) (se : Nat → Int32) (bd : Nat → Int32) (bs : Int32) (dk : Nat → Int32) (dp : Int32) (ct : Int32) (bo : Int32) (wi : Nat → Int32) (sh : Nat → Int32) (lf : Nat → Int32) (lc : Int32) (mo : Int32) (ah : Int32) : va_W := [(g.2.2 0, .inr (1, [.int th, .ref (g.2.2 1), .int kc, .ref (g.2.2 2), .ref (g.2.2 3), .ref (g.2.2 4), .int hs, .ref (g.2.2 5), .ref (g.2.2 6), .int bs, .ref (g.2.2 7), .int dp, .int ct, .int bo, .ref (g.2.2 8), .ref (g.2.2 9), .ref (g.2.2 10), .int lc, .int mo, .int ah])), (g.2.2 1, .inl (g.2.1, 7462, .inl ks)), (g.2.2 2, .inl (g.2.1, 5, .inl rn)), (g.2.2 3, .inl (g.2.1, 13, .inl oc)), (g.2.2 4, .inl (g.2.1, 7, .inl hd)), (g.2.2 5, .inl (g.2.1, 12, .inl se)), (g.2.2 6, .inl (g.2.1, 5, .inl bd)), (g.2.2 7, .inl (g.2.1, 52, .inl dk)), (g.2.2 8, .inl (g.2.1, 6, .inl wi)), (g.2.2 9, .inl (g.2.1, 6, .inl sh)), (g.2.2 10, .inl (g.2.1, 52, .inl lf))]
abbrev mo_W (g : mo_E) (S : mS) : va_W := mo_V g (S.1) (S.2.1) (S.2.2.1) (S.2.2.2.1) (S.2.2.2.2.1) (S.2.2.2.2.2.1) (S.2.2.2.2.2.2.1) (S.2.2.2.2.2.2.2.1) (S.2.2.2.2.2.2.2.2.1) (S.2.2.2.2.2.2.2.2.2.1) (S.2.2.2.2.2.2.2.2.2.2.1) (S.2.2.2.2.2.2.2.2.2.2.2.1) (S.2.2.2.2.2.2.2.2.2.2.2.2.1) (S.2.2.2.2.2.2.2.2.2.2.2.2.2.1) (S.2.2.2.2.2.2.2.2.2.2.2.2.2.2.1) (S.2.2.2.2.2.2.2.2.2.2.2.2.2.2.2.1) (S.2.2.2.2.2.2.2.2.2.2.2.2.2.2.2.2.1) (S.2.2.2.2.2.2.2.2.2.2.2.2.2.2.2.2.2.1) (S.2.2.2.2.2.2.2.2.2.2.2.2.2.2.2.2.2.2.1) (S.2.2.2.2.2.2.2.2.2.2.2.2.2.2.2.2.2.2.2)
def mo_ap (g : mo_E) : Prop := ∀ i j, i < 11 → j < 11 → g.2.2 i = g.2.2 j → i = j
def mo_fr (g : mo_E) (q : Nat) : Prop := ∃ i, i < 11 ∧ q = g.2.2 i
theorem mo_nth {g : mo_E} {th kc hs bs dp ct bo lc mo ah : Int32} {ks rn oc hd se bd dk wi sh lf : Nat → Int32} {i : Nat} {x : Nat × va_E} (h : (mo_V g th ks kc rn oc hd hs se bd bs dk dp ct bo wi sh lf lc mo ah)[i]? = some x) : i < 11 ∧ x.1 = g.2.2 i := by
  match i with
  | 0 => cases h; exact ⟨by decide, rfl⟩
  | 1 => cases h; exact ⟨by decide, rfl⟩
  | 2 => cases h; exact ⟨by decide, rfl⟩
  | 3 => cases h; exact ⟨by decide, rfl⟩
  | 4 => cases h; exact ⟨by decide, rfl⟩
  | 5 => cases h; exact ⟨by decide, rfl⟩
  | 6 => cases h; exact ⟨by decide, rfl⟩
  | 7 => cases h; exact ⟨by decide, rfl⟩
  | 8 => cases h; exact ⟨by decide, rfl⟩
  | 9 => cases h; exact ⟨by decide, rfl⟩
  | 10 => cases h; exact ⟨by decide, rfl⟩
  | n + 11 => cases h
theorem mo_D {g : mo_E} {th kc hs bs dp ct bo lc mo ah : Int32} {ks rn oc hd se bd dk wi sh lf : Nat → Int32} (h : mo_ap g) : va_D (mo_fr g) (mo_V g th ks kc rn oc hd hs se bd bs dk dp ct bo wi sh lf lc mo ah) := by
  refine ⟨fun i j x y hi hj hxy => ?_, fun k q hk => ?_⟩
  · obtain ⟨h1, h2⟩ := mo_nth hi
    obtain ⟨h3, h4⟩ := mo_nth hj
    exact h i j h1 h3 (by rw [← h2, ← h4]; exact hxy)
  · obtain ⟨h1, h2⟩ := mo_nth hk
    exact ⟨k, h1, h2⟩
def tf_M : Nat → FieldType := fun k => match k with
  | 0 => .int
  | 1 => .array .int
  | 2 => .int
  | 3 => .array .int
  | 4 => .array .int
  | 5 => .array .int
  | 6 => .int
  | 7 => .array .int
  | 8 => .array .int
  | 9 => .int
  | 10 => .array .int
  | 11 => .int
  | 12 => .boolean
  | 13 => .int
  | 14 => .array .int
  | 15 => .array .int
  | 16 => .array .int
  | 17 => .int
  | 18 => .int
  | _ => .int
theorem tf_M_ok : ∀ k, k < 20 → parseFieldDescriptor (T_M k).2.2.1 = some (tf_M k) := by decide +kernel
theorem n_M : ∀ a, a < 20 → ∀ b, b < 20 → a ≠ b → (T_M a).2.1 ≠ (T_M b).2.1 := by decide +kernel
def mo_F (g : mo_E) (S : mS) (U : State) : Prop := va_P g.1 cl_X (mo_W g S) U.heap ∧ va_K g.1 cl_X [(g.2.1, .int)] U
theorem bl_mo {g : mo_E} {S : mS} : bl_F (mo_F g S) := by
  intro u U hW hh h
  exact ⟨by rw [hh]; exact h.1, va_K.moved hW.alike h.2⟩
abbrev mm_T : Type := Option Value → mS → Prop
def mm_Q (g : mo_E) (R : mm_T) : Array Value → State → Outcome → State → Prop := fun _ st o t =>
  ∃ v S, R v S ∧ o = .returned v ∧ st.heap.size ≤ t.heap.size ∧ va_P g.1 cl_X (mo_W g S) t.heap ∧ ∀ q : Nat, q < st.heap.size → ¬ mo_fr g q → t.heap[q]? = st.heap[q]?
/-- the model's method: from the cells S it answers v and leaves the cells S', as R says -/
def mm_M (l : Launch) (y : MethodName) (b : ByteArray) (n : Nat) (ret : Option FieldType) (d : Nat) (av : List Value) (g : mo_E) (S : mS) (R : mm_T) : Prop :=
  Met l y (wd y b n ret) (rmD d 0 0) (va_Pc av (mo_F g S)) (mm_Q g R) 0 0 (mo_fr g)
section MM
variable {p : Program} {l : Launch} {e : Env} {R : Room} {s : State} {m : MethodId} {args : Array Value} {below : List Frame} {meth : Method} {c : Code} {H : Heap} {locs : List Loc} {cells slots : Nat} {Q : State → Prop}
variable {cc b : ByteArray} {pc nL n d index k o : Nat} {ls : Array Slot} {rest st0 : List Value} {own C : String} {y y0 : MethodName} {b0 : ByteArray} {n0 : Nat} {ret ret0 : Option FieldType} {av : List Value} {B : State → Prop} {g : mo_E} {S : mS} {R0 : mm_T} {r : Value}
theorem mm_end {v : Option Value} {t : State} (hv : R0 v S) (hP : va_P g.1 cl_X (mo_W g S) H) (hS : va_S (mo_fr g) s.heap H locs) (ht : t.heap = H) {a : Array Value} : mm_Q g R0 a s (.returned v) t :=
  ⟨v, S, hv, rfl, by rw [ht]; exact hS.1, by rw [ht]; exact hP, fun q h1 h2 => by rw [ht]; exact hS.2.1 q h1 h2⟩
theorem mm_iret {v : Int32} (hexec : p.tables.exec = Jvm.exec) (hb : c.code = cc) (hr : meth.sig.returnType = some .int) (hlocks : meth.locks = false) (hdg : decode cc pc = .ok (.ireturn, 1)) (hP : va_P g.1 cl_X (mo_W g S) H) (hS : va_S (mo_fr g) s.heap H locs) (hv : R0 (some (.int v)) S) :
    W p l e R s m args below meth c H locs 0 0 (MQ below (mm_Q g R0) args s 0 0 (mo_fr g)) (F0 m pc ls [.int v]) :=
  W.iret hexec hb hr (fun t ht _ => mm_end hv hP hS ht) hS.2.2 hdg hlocks
theorem mm_lret {v : Int64} (hexec : p.tables.exec = Jvm.exec) (hb : c.code = cc) (hr : meth.sig.returnType = some .long) (hlocks : meth.locks = false) (hdg : decode cc pc = .ok (.lreturn, 1)) (hP : va_P g.1 cl_X (mo_W g S) H) (hS : va_S (mo_fr g) s.heap H locs) (hv : R0 (some (.long v)) S) :
    W p l e R s m args below meth c H locs 0 0 (MQ below (mm_Q g R0) args s 0 0 (mo_fr g)) (F0 m pc ls [.long v]) :=
  W.lret hexec hb hr (fun t ht _ => mm_end hv hP hS ht) hS.2.2 hdg hlocks
theorem mm_zret {v : Int32} (hexec : p.tables.exec = Jvm.exec) (hb : c.code = cc) (hr : meth.sig.returnType = some .boolean) (hlocks : meth.locks = false) (hdg : decode cc pc = .ok (.ireturn, 1)) (h01 : v = 0 ∨ v = 1) (hP : va_P g.1 cl_X (mo_W g S) H) (hS : va_S (mo_fr g) s.heap H locs) (hv : R0 (some (.int v)) S) :
    W p l e R s m args below meth c H locs 0 0 (MQ below (mm_Q g R0) args s 0 0 (mo_fr g)) (F0 m pc ls [.int v]) := by
  refine W.zret hexec hb hr ?_ (fun t ht _ => mm_end hv hP hS ht) hS.2.2 hdg hlocks
  rcases h01 with h | h <;> subst h <;> rfl
theorem mm_vret (hexec : p.tables.exec = Jvm.exec) (hb : c.code = cc) (hr : meth.sig.returnType = none) (hlocks : meth.locks = false) (hdg : decode cc pc = .ok (.return_, 1)) (hP : va_P g.1 cl_X (mo_W g S) H) (hS : va_S (mo_fr g) s.heap H locs) (hv : R0 none S) :
    W p l e R s m args below meth c H locs 0 0 (MQ below (mm_Q g R0) args s 0 0 (mo_fr g)) (F0 m pc ls []) :=
  W.vret hexec hb hr (fun t ht _ => mm_end hv hP hS ht) hS.2.2 hdg hlocks
/-- the call of a method of the model, where A0 may have changed before -/
theorem mm_VA {A0 : Nat → Prop} (hM : mm_M l y b n ret d (.ref (g.2.2 0) :: av) g S R0) (he : st0 = av.reverse ++ .ref (g.2.2 0) :: rest) (hc : cv_W own index "HandTablesModel" y b n ret k) (S9 : CallFix p m c cc nL s args (wd y0 b0 n0 ret0) own) (hK : va_K g.1 cl_X [(g.2.1, .int)] s) (hP : va_P g.1 cl_X (mo_W g S) H)
    (hR : (d + 1 ≤ R.frames ∧ 8 + (n + 11) + 70 * d ≤ R.locals)) (hl : ls.size = nL) (hk : av.length = k) (hst : (rest.map fun v => v.category).sum ≤ 8) (hf : cells ≤ R.cells ∧ slots ≤ R.slots) (hdg : decode cc pc = .ok (.invokevirtual index, 3)) (hS : va_S A0 s.heap H locs) (hsub : ∀ q, mo_fr g q → A0 q)
    (kk : ∀ (v : Option Value) (S1 : mS) (H1 : Heap) (locs1 : List Loc), R0 v S1 → va_P g.1 cl_X (mo_W g S1) H1 → va_S A0 s.heap H1 locs1 → H.size ≤ H1.size → (∀ q : Nat, q < H.size → ¬ mo_fr g q → H1[q]? = H[q]?) → W p l e R s m args below meth c H1 locs1 cells slots Q (F0 m (pc + 3) ls (v.toList ++ rest))) : W p l e R s m args below meth c H locs cells slots Q (F0 m pc ls st0) := by
  subst he
  have hrc := va_recv (q0 := 0) (ci := 1) (q := ("HandTablesModel", T_M, 20)) hK hP rfl rfl
  have hr := va_runV (C := "HandTablesModel") (b := g.2.2 0) (As := av) (rest := rest) (e := e) (below := below) (meth := meth) (H := H) (locs := locs) (cells := cells) (slots := slots) (g := F0 m pc ls (av.reverse ++ .ref (g.2.2 0) :: rest)) S9 hM (cwV k S9.2.2.2.2 (cv_good hc) rfl rfl rfl hc.2.2.2.2.2 hR) ⟨bl_blind bl_mo, hrc, fun U hU hW => ⟨rfl, by rw [hU]; exact hP, va_K.moved hW.alike hK⟩⟩ rfl hk hl rfl (by show 2 * 0 + _ ≤ 8; omega) hdg hf
  intro X hX Y
  obtain ⟨v, st₀, t, T', L, h0, X', hL, e1, e2, ⟨v', S1, hres, hv, hz, hp, hk1⟩, st⟩ := hr X hX Y
  cases hv
  rw [h0] at hz hk1
  obtain ⟨t2, a1, b1⟩ := kk v S1 T'.heap (locs ++ L) hres (by rw [e1]; exact hp) ⟨Nat.le_trans hS.1 (by rw [e1]; exact hz), fun q h1 h2 => by rw [e1, hk1 q (Nat.lt_of_lt_of_le h1 hS.1) (fun z => h2 (hsub q z))]; exact hS.2.1 q h1 h2, fun q hq => by
      rcases List.mem_append.mp hq with h | h
      · exact hS.2.2 q h
      · exact hsub _ (hL q h)⟩ (by rw [e1]; exact hz) (fun q h1 h2 => by rw [e1]; exact hk1 q h1 h2) T' rfl X'
  exact ⟨t2, st t2 a1, b1⟩
theorem mm_V (hM : mm_M l y b n ret d (.ref (g.2.2 0) :: av) g S R0) (he : st0 = av.reverse ++ .ref (g.2.2 0) :: rest) (hc : cv_W own index "HandTablesModel" y b n ret k) (S9 : CallFix p m c cc nL s args (wd y0 b0 n0 ret0) own) (hK : va_K g.1 cl_X [(g.2.1, .int)] s) (hP : va_P g.1 cl_X (mo_W g S) H)
    (hR : (d + 1 ≤ R.frames ∧ 8 + (n + 11) + 70 * d ≤ R.locals)) (hl : ls.size = nL) (hk : av.length = k) (hst : (rest.map fun v => v.category).sum ≤ 8) (hf : cells ≤ R.cells ∧ slots ≤ R.slots) (hdg : decode cc pc = .ok (.invokevirtual index, 3)) (hS : va_S (mo_fr g) s.heap H locs)
    (kk : ∀ (v : Option Value) (S1 : mS) (H1 : Heap) (locs1 : List Loc), R0 v S1 → va_P g.1 cl_X (mo_W g S1) H1 → va_S (mo_fr g) s.heap H1 locs1 → W p l e R s m args below meth c H1 locs1 cells slots Q (F0 m (pc + 3) ls (v.toList ++ rest))) : W p l e R s m args below meth c H locs cells slots Q (F0 m pc ls st0) :=
  mm_VA hM he hc S9 hK hP hR hl hk hst hf hdg hS (fun _ h => h) (fun v S1 H1 locs1 h1 h2 h3 _ _ => kk v S1 H1 locs1 h1 h2 h3)
/-- a static pure call in a heap that has changed -/
theorem pu_SH {av : List Value} (hM : pu_M l y b n ret d av (fun _ => True) r) (he : st0 = av.reverse ++ rest) (hc : cs_W own index y b n ret k) (S9 : CallFix p m c cc nL s args (wd y0 b0 n0 ret0) own)
    (hR : (d + 1 ≤ R.frames ∧ 8 + (n + 11) + 70 * d ≤ R.locals)) (hl : ls.size = nL) (hk : av.length = k) (hst : (rest.map fun v => v.category).sum ≤ 8) (hf : cells ≤ R.cells ∧ slots ≤ R.slots) (hdg : decode cc pc = .ok (.invokestatic index, 3))
    (kk : W p l e R s m args below meth c H locs cells slots Q (F0 m (pc + 3) ls (r :: rest))) : W p l e R s m args below meth c H locs cells slots Q (F0 m pc ls st0) := by
  subst he
  exact pu_call (va_runS (As := av) (rest := rest) S9 hM (va_cwS k S9.2.2.2.2 (cs_good hc) rfl rfl rfl hc.2.2.2.2 hR) ⟨bl_blind bl_T, fun U hU hW => ⟨rfl, trivial⟩⟩ rfl hk hl rfl (by show 2 * 0 + _ ≤ 8; omega) hdg hf) kk
theorem mm_go {H0 : Heap} {L0 : List Loc} {f : JFrame} (h1 : H0 = H) (h2 : L0 = locs) (k : W p l e R s m args below meth c H locs cells slots Q f) : W p l e R s m args below meth c H0 L0 cells slots Q f := by
  subst h1; subst h2; exact k
/-- two longs are compared, and the branch is taken where the first is no greater -/
theorem jv_lcle (hexec : p.tables.exec = Jvm.exec) (hb : c.code = cc) {x y : Int64} {off : Int} {tgt : Nat} (h1 : decode cc pc = .ok (.lcmp, 1)) (h2 : decode cc (pc + 1) = .ok (.ifCond .le off, 3)) (ht : ((pc + 1 : Nat) : Int) + off = (tgt : Int))
    (kt : x ≤ y → W p l e R s m args below meth c H locs cells slots Q (F0 m tgt ls rest)) (kf : ¬ x ≤ y → W p l e R s m args below meth c H locs cells slots Q (F0 m (pc + 4) ls rest)) : W p l e R s m args below meth c H locs cells slots Q (F0 m pc ls (.long y :: .long x :: rest)) := by
  refine W.lcmp hexec hb h1 (lv_if_le hexec hb h2 ht (fun h => kt ?_) (fun h => kf ?_))
  · unfold lg_cmp at h
    split at h
    · exact absurd h (by decide)
    · rename_i e8
      exact Int64.not_lt.mp e8
  · unfold lg_cmp at h
    split at h
    · rename_i e8
      exact Int64.not_le.mpr e8
    · split at h
      · exact absurd (by decide) h
      · exact absurd (by decide) h
end MM
/-- what a contract says may be said in other words -/
theorem mm_imp {l : Launch} {y : MethodName} {b : ByteArray} {n d : Nat} {ret : Option FieldType} {av : List Value} {g : mo_E} {S : mS} {R R' : mm_T} (h : mm_M l y b n ret d av g S R) (hi : ∀ v S', R v S' → R' v S') : mm_M l y b n ret d av g S R' := by
  intro p e h1 h2 h3 s m args below h4 h5 h6 h7
  obtain ⟨n0, o, a1, b1, c1, ⟨⟨v, S1, r1, r2⟩, r3⟩⟩ := h p e h1 h2 h3 s m args below h4 h5 h6 h7
  exact ⟨n0, o, a1, b1, c1, ⟨⟨v, S1, hi _ _ r1, r2⟩, r3⟩⟩
end
