/-! Methods that change the object's cells, or throw -/
abbrev mu_R : Type := String ⊕ (Option Value × (Nat → Int64) × (Nat → Int32) × Int32)
def mu_fr (g : xo_E) (q : Nat) : Prop := q = xo_a g ∨ q = xo_t g ∨ q = xo_d g
def xo_ap (g : xo_E) : Prop := xo_a g ≠ xo_t g ∧ xo_a g ≠ xo_d g ∧ xo_t g ≠ xo_d g
def mu_Q (g : xo_E) (res : mu_R) : Array Value → State → Outcome → State → Prop := fun _ st o t =>
  ∃ v T dk dn, res = .inr (v, T, dk, dn) ∧ o = .returned v ∧ st.heap.size ≤ t.heap.size ∧ va_P g.1 cl_X (xo_W g T dk dn) t.heap ∧ ∀ q : Nat, q < st.heap.size → ¬ mu_fr g q → t.heap[q]? = st.heap[q]?
def mu_X (res : mu_R) : String → State → State → Prop := fun E st t => res = .inl E ∧ st.heap.size ≤ t.heap.size ∧ ∀ q : Nat, q < st.heap.size → t.heap[q]? = st.heap[q]?
def mu_M (l : Launch) (y : MethodName) (b : ByteArray) (n : Nat) (ret : Option FieldType) (d : Nat) (av : List Value) (g : xo_E) (B : State → Prop) (res : mu_R) : Prop :=
  vx_Met l y (wd y b n ret) (rmD d 1 6) (va_Pc av B) (mu_Q g res) (mu_X res) 1 6 (mu_fr g)
theorem xo_D {g : xo_E} (T : Nat → Int64) (dk : Nat → Int32) (dn : Int32) (h : xo_ap g) : va_D (mu_fr g) (xo_W g T dk dn) := by
  obtain ⟨h1, h2, h3⟩ := h
  refine ⟨fun i j x y hi hj hxy => ?_, fun k q hk => ?_⟩
  · match i, j with
    | 0, 0 => rfl
    | 1, 1 => rfl
    | 2, 2 => rfl
    | 0, 1 => cases hi; cases hj; exact absurd hxy h1
    | 0, 2 => cases hi; cases hj; exact absurd hxy h2
    | 1, 0 => cases hi; cases hj; exact absurd hxy.symm h1
    | 1, 2 => cases hi; cases hj; exact absurd hxy h3
    | 2, 0 => cases hi; cases hj; exact absurd hxy.symm h2
    | 2, 1 => cases hi; cases hj; exact absurd hxy.symm h3
    | _, n + 3 => cases hj
    | n + 3, 0 => cases hi
    | n + 3, 1 => cases hi
    | n + 3, 2 => cases hi
  · match k with
    | 0 => cases hk; exact Or.inl rfl
    | 1 => cases hk; exact Or.inr (Or.inl rfl)
    | 2 => cases hk; exact Or.inr (Or.inr rfl)
    | n + 3 => cases hk
section MU
variable {p : Program} {l : Launch} {e : Env} {R : Room} {s : State} {m : MethodId} {args : Array Value} {below : List Frame} {meth : Method} {c : Code} {H : Heap} {locs : List Loc} {cells slots : Nat} {Q : State → Prop}
variable {cc b : ByteArray} {pc nL n d index k : Nat} {ls : Array Slot} {rest st0 : List Value} {own C : String} {y y0 : MethodName} {b0 : ByteArray} {n0 : Nat} {ret ret0 : Option FieldType} {av : List Value} {B : State → Prop} {res : String ⊕ Option Value} {res0 : mu_R} {g : xo_E} {T : Nat → Int64} {dk : Nat → Int32} {dn : Int32}
/-- a static call that may throw, before anything has changed -/
theorem mu_S (hM : px_M l y b n ret d av B res) (he : st0 = av.reverse ++ rest) (hc : cs_W own index y b n ret k) (S : CallFix p m c cc nL s args (wd y0 b0 n0 ret0) own) (hBl : bl_F B) (hB : B s)
    (hR : (d + 1 ≤ R.frames ∧ 8 + (n + 11) + 70 * d ≤ R.locals)) (hl : ls.size = nL) (hk : av.length = k) (hst : (rest.map fun v => v.category).sum ≤ 8) (hf : 0 + 1 ≤ R.cells ∧ 0 + 6 ≤ R.slots) (hdg : decode cc pc = .ok (.invokestatic index, 3)) (hout : ∀ x ∈ c.exceptionTable.toList, False) (hlk : meth.locks = false)
    (hE : ∀ E, res = .inl E → res0 = .inl E)
    (kr : ∀ v, res = .inr v → W p l e R s m args below meth c s.heap [] 0 0 (vx_MQ below (mu_Q g res0) (mu_X res0) args s 1 6 (mu_fr g)) (F0 m (pc + 3) ls (v.toList ++ rest))) :
    W p l e R s m args below meth c s.heap [] 0 0 (vx_MQ below (mu_Q g res0) (mu_X res0) args s 1 6 (mu_fr g)) (F0 m pc ls st0) := by
  subst he
  exact px_call (vx_runS (As := av) (rest := rest) S hM (va_cwS k S.2.2.2.2 (cs_good hc) rfl rfl rfl hc.2.2.2.2 hR) ⟨bl_blind hBl, fun U hU hW => ⟨rfl, hBl s U hW hU hB⟩⟩ rfl hk hl rfl (by show 2 * 0 + _ ≤ 8; omega) hdg hf) kr
    (fun E q ce H1 h0 h1 h2 h3 h4 h5 => vx_out (fun x hx => (hout x hx).elim) hlk h1 h2 h3 (fun t ht _ => ⟨hE E h0, by rw [ht]; exact h4, fun z hz => by rw [ht]; exact h5 z hz⟩) (fun z hz => nomatch hz) (Nat.le_refl _) (Nat.le_refl _))
theorem mu_end {v : Option Value} {t : State} (hv : res0 = .inr (v, T, dk, dn)) (hP : va_P g.1 cl_X (xo_W g T dk dn) H) (hS : va_S (mu_fr g) s.heap H locs) (ht : t.heap = H) {a : Array Value} : mu_Q g res0 a s (.returned v) t :=
  ⟨v, T, dk, dn, hv, rfl, by rw [ht]; exact hS.1, by rw [ht]; exact hP, fun q h1 h2 => by rw [ht]; exact hS.2.1 q h1 h2⟩
theorem mu_iret {v : Int32} (hexec : p.tables.exec = Jvm.exec) (hb : c.code = cc) (hr : meth.sig.returnType = some .int) (hlocks : meth.locks = false) (hdg : decode cc pc = .ok (.ireturn, 1)) (hP : va_P g.1 cl_X (xo_W g T dk dn) H) (hS : va_S (mu_fr g) s.heap H locs) (hv : res0 = .inr (some (.int v), T, dk, dn)) :
    W p l e R s m args below meth c H locs 0 0 (vx_MQ below (mu_Q g res0) (mu_X res0) args s 1 6 (mu_fr g)) (F0 m pc ls [.int v]) :=
  W.widen (k := 1) (n := 6) (by omega) (by omega) (vx_ret (W.iret hexec hb hr (fun t ht _ => mu_end hv hP hS ht) hS.2.2 hdg hlocks))
theorem mu_zret {v : Int32} (hexec : p.tables.exec = Jvm.exec) (hb : c.code = cc) (hr : meth.sig.returnType = some .boolean) (hlocks : meth.locks = false) (hdg : decode cc pc = .ok (.ireturn, 1)) (h01 : v = 0 ∨ v = 1) (hP : va_P g.1 cl_X (xo_W g T dk dn) H) (hS : va_S (mu_fr g) s.heap H locs) (hv : res0 = .inr (some (.int v), T, dk, dn)) :
    W p l e R s m args below meth c H locs 0 0 (vx_MQ below (mu_Q g res0) (mu_X res0) args s 1 6 (mu_fr g)) (F0 m pc ls [.int v]) := by
  refine W.widen (k := 1) (n := 6) (by omega) (by omega) (vx_ret (W.zret hexec hb hr ?_ (fun t ht _ => mu_end hv hP hS ht) hS.2.2 hdg hlocks))
  rcases h01 with h | h <;> subst h <;> rfl
theorem mu_vret (hexec : p.tables.exec = Jvm.exec) (hb : c.code = cc) (hr : meth.sig.returnType = none) (hlocks : meth.locks = false) (hdg : decode cc pc = .ok (.return_, 1)) (hP : va_P g.1 cl_X (xo_W g T dk dn) H) (hS : va_S (mu_fr g) s.heap H locs) (hv : res0 = .inr (none, T, dk, dn)) :
    W p l e R s m args below meth c H locs 0 0 (vx_MQ below (mu_Q g res0) (mu_X res0) args s 1 6 (mu_fr g)) (F0 m pc ls []) :=
  W.widen (k := 1) (n := 6) (by omega) (by omega) (vx_ret (W.vret hexec hb hr (fun t ht _ => mu_end hv hP hS ht) hS.2.2 hdg hlocks))
end MU
