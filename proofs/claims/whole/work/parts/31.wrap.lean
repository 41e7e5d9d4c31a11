/-! the law's wrappers: what they need -/
theorem gw_inT {Ts : List Cond} (hT : ∀ w ∈ gw, w ∈ Ts) {y : MethodName} {b : ByteArray} {n : Nat} {r : Option FieldType} (h : Cond.code y b n r ∈ gw) : GoodIn Ts (wd y b n r) := by
  intro w hw
  rcases List.mem_cons.mp hw with e | e
  · subst e
    exact ⟨hT _ h, gw_good h⟩
  · exact ⟨hT _ e, gw_good e⟩
theorem cv_goodT {Ts : List Cond} (hT : ∀ w ∈ gw, w ∈ Ts) {own C : String} {index : Nat} {y : MethodName} {b : ByteArray} {n k : Nat} {ret : Option FieldType} (hc : cv_W own index C y b n ret k) : GoodIn Ts (wsV own index C y (wd y b n ret)) := by
  obtain ⟨w1, w2, w3, w4, w5, -⟩ := hc
  intro w hw
  unfold wsV at hw
  rcases List.mem_append.mp hw with h | h
  · have hg : w ∈ gw := by
      rcases List.mem_cons.mp h with e | h
      · subst e; exact w1
      rcases List.mem_cons.mp h with e | h
      · subst e; exact w2
      rcases List.mem_cons.mp h with e | h
      · subst e; exact w3
      rcases List.mem_cons.mp h with e | h
      · subst e; exact w4
      · cases h
    exact ⟨hT _ hg, gw_good hg⟩
  · exact gw_inT hT w5 w h
def px_up (T : Nat → Int64) (dk : Nat → Int32) (dn : Int32) (res : String ⊕ Option Value) : mu_R := match res with
  | .inl E => .inl E
  | .inr v => .inr (v, T, dk, dn)
/-- a method that changes nothing, as one that may -/
theorem px_mu {l : Launch} {y : MethodName} {b : ByteArray} {n d : Nat} {ret : Option FieldType} {av : List Value} {g : xo_E} {T : Nat → Int64} {dk : Nat → Int32} {dn : Int32} {res : String ⊕ Option Value} (h : px_M l y b n ret d av (xo_F g T dk dn) res) : mu_M l y b n ret d av g (xo_F g T dk dn) (px_up T dk dn res) := by
  intro p e h1 h2 h3 s m args below h4 h5 h6 h7
  obtain ⟨n0, o, a1, b1, c1, hq⟩ := h p e h1 h2 h3 s m args below h4 h5 h6 h7
  refine ⟨n0, o, a1, b1, c1, ?_⟩
  rcases hq with ⟨⟨v, hr, ho, hh⟩, L, hF, hL⟩ | ⟨q, ho, E, ce, L, ⟨hE, hz, hk⟩, r1, r2, r3, r4, r5, r6⟩
  · exact Or.inl ⟨⟨v, T, dk, dn, by rw [hr]; rfl, ho, by rw [hh]; exact Nat.le_refl _, by rw [hh]; exact h6.2.2.2.1, fun q _ _ => by rw [hh]⟩, L, hF, fun q hq => (hL q hq).elim⟩
  · exact Or.inr ⟨q, ho, E, ce, L, ⟨by rw [hE]; rfl, hz, hk⟩, r1, r2, r3, r4, r5, fun z hz => (r6 z hz).elim⟩
section WR
variable {p : Program} {l : Launch} {e : Env} {R : Room} {s : State} {m : MethodId} {args : Array Value} {below : List Frame} {meth : Method} {c : Code} {H : Heap} {locs : List Loc} {cells slots : Nat} {Q : State → Prop}
variable {cc b : ByteArray} {pc nL n d index k : Nat} {ls : Array Slot} {rest st0 : List Value} {own : String} {y : MethodName} {ret : Option FieldType} {av : List Value} {Ts : List Cond} {res : mu_R} {g : xo_E} {T : Nat → Int64} {dk : Nat → Int32} {dn : Int32}
/-- the call of a method of the class that may change it or throw -/
theorem wr_V (hM : mu_M l y b n ret d (.ref (xo_a g) :: av) g (xo_F g T dk dn) res) (he : st0 = av.reverse ++ .ref (xo_a g) :: rest) (hT : ∀ w ∈ gw, w ∈ Ts) (hc : cv_W own index "HandTables" y b n ret k) (S9 : CallFix p m c cc nL s args Ts own) (hB : ∀ U : State, U.heap = H → s.WarmedH U.vm → xo_F g T dk dn U) (hrc : ∃ cell : Cell, H[xo_a g]? = some cell ∧ cell.vm.isStatics = false ∧ s.vm.findClass "HandTables" = some cell.cls)
    (hR : (d + 1 ≤ R.frames ∧ 8 + (n + 11) + 70 * d ≤ R.locals)) (hl : ls.size = nL) (hk : av.length = k) (hst : (rest.map fun v => v.category).sum ≤ 8) (hf : cells + 1 ≤ R.cells ∧ slots + 6 ≤ R.slots) (hdg : decode cc pc = .ok (.invokevirtual index, 3))
    (kr : ∀ (v : Option Value) (T1 : Nat → Int64) (dk1 : Nat → Int32) (dn1 : Int32) (H1 : Heap) (L : List Loc), res = .inr (v, T1, dk1, dn1) → va_P g.1 cl_X (xo_W g T1 dk1 dn1) H1 → H.size ≤ H1.size → (∀ q : Nat, q < H.size → ¬ mu_fr g q → H1[q]? = H[q]?) → (∀ z ∈ L, mu_fr g z.base) → W p l e R s m args below meth c H1 (locs ++ L) (cells + 1) (slots + 6) Q (F0 m (pc + 3) ls (v.toList ++ rest)))
    (kt : ∀ (E : String) (q : Addr) (ce : Cell) (H1 : Heap) (L : List Loc), res = .inl E → H1[q]? = some ce → ce.vm = .none → s.vm.findClass E = some ce.cls → H.size ≤ H1.size → (∀ z : Nat, z < H.size → H1[z]? = H[z]?) → (∀ z ∈ L, mu_fr g z.base) → vx_W p l e R s m args below meth c H1 (locs ++ L) (cells + 1) (slots + 6) Q (F0 m pc ls rest) q) :
    W p l e R s m args below meth c H locs cells slots Q (F0 m pc ls st0) := by
  subst he
  have hr := vx_runV (C := "HandTables") (b := xo_a g) (As := av) (rest := rest) (e := e) (below := below) (meth := meth) (H := H) (locs := locs) (cells := cells) (slots := slots) (g := F0 m pc ls (av.reverse ++ .ref (xo_a g) :: rest)) S9 hM (cwV k S9.2.2.2.2 (cv_goodT hT hc) rfl rfl rfl hc.2.2.2.2.2 hR) ⟨bl_blind bl_xo, hrc, fun U hU hW => ⟨rfl, hB U hU hW⟩⟩ rfl hk hl rfl (by show 2 * 0 + _ ≤ 8; omega) hdg hf
  intro X hX Y
  rcases hr X hX Y with ⟨v, st₀, t, T', L, h0, X', hL, e1, e2, ⟨v', T1, k1, n1, hres, hv, hz, hp, hk1⟩, st⟩ | ⟨q, st₀, t, T', L, E, ce, h0, X', hL, e1, e2, ⟨hE, hz, hk1⟩, hce, hcv, hcl, st⟩
  · cases hv
    rw [h0] at hz hk1
    obtain ⟨t2, a1, b1⟩ := kr v T1 k1 n1 T'.heap L hres (by rw [e1]; exact hp) (by rw [e1]; exact hz) (fun q h1 h2 => by rw [e1]; exact hk1 q h1 h2) hL T' rfl X'
    exact ⟨t2, st t2 a1, b1⟩
  · rw [h0] at hz hk1
    obtain ⟨t2, a1, b1⟩ := kt E q ce t.heap L hE hce hcv hcl hz hk1 hL T' e1 X'
    exact ⟨t2, st.trans a1, b1⟩
end WR
/-- no exception of one kind is of another -/
def nc_F (U : State) : Prop := va_Nc ex_IA ex_IO U ∧ va_Nc ex_IS ex_IO U ∧ va_Nc ex_IS ex_IA U
/-- the class's cells, and the law's own array of one long -/
abbrev xq_W (g : xo_E) (o : Nat) (T : Nat → Int64) (K : Nat → Int32) (n : Int32) (f : Nat → Int64) : va_W := [(xo_a g, .inr (0, [.ref (xo_t g), .ref (xo_d g), .int n])), (xo_t g, .inl (g.2.1, 7, .inr (.inl T))), (xo_d g, .inl (g.2.2.1, 52, .inl K)), (o, .inl (g.2.1, 1, .inr (.inl f)))]
def wr_fr (g : xo_E) (o : Nat) (q : Nat) : Prop := q = o ∨ mu_fr g q
theorem xq_D {g : xo_E} {o : Nat} (T : Nat → Int64) (dk : Nat → Int32) (dn : Int32) (f : Nat → Int64) (h : xo_ap g) (ho : ¬ mu_fr g o) : va_D (wr_fr g o) (xq_W g o T dk dn f) := by
  have h0 := xo_D T dk dn h
  refine va_D.app (w1 := xo_W g T dk dn) (w2 := [(o, .inl (g.2.1, 1, .inr (.inl f)))]) (h0.weaken (fun _ _ _ z => Or.inr z)) ⟨fun i j x y hi hj _ => ?_, fun k q hk => ?_⟩ (fun i j p q hi hj e => ?_)
  · match i, j with
    | 0, 0 => rfl
    | _, n + 1 => cases hj
    | n + 1, 0 => cases hi
  · match k with
    | 0 => cases hk; exact Or.inl rfl
    | n + 1 => cases hk
  · match j with
    | 0 => cases hj; have e : p.1 = o := e; exact ho (e ▸ h0.2 i p hi)
    | n + 1 => cases hj
def lq_F (g : xo_E) (o : Nat) (T : Nat → Int64) (K : Nat → Int32) (n : Int32) (f : Nat → Int64) (U : State) : Prop := xo_F g T K n U ∧ nc_F U ∧ va_P g.1 cl_X [(o, .inl (g.2.1, 1, .inr (.inl f)))] U.heap
theorem bl_lq {g : xo_E} {o : Nat} {T : Nat → Int64} {K : Nat → Int32} {n : Int32} {f : Nat → Int64} : bl_F (lq_F g o T K n f) := by
  intro u U hW hh h
  obtain ⟨h1, ⟨h2, h3, h4⟩, h5⟩ := h
  exact ⟨bl_xo u U hW hh h1, ⟨h2.moved hW.alike, h3.moved hW.alike, h4.moved hW.alike⟩, by rw [hh]; exact h5⟩
/-- what a wrapper says: its number, what stands in the long, the class's cells -/
abbrev wr_T : Type := Int32 → Int64 → (Nat → Int64) → (Nat → Int32) → Int32 → Prop
def wr_Q (g : xo_E) (o : Nat) (R : wr_T) : Array Value → State → Outcome → State → Prop := fun _ st oc t =>
  ∃ k f T dk dn, R k (f 0) T dk dn ∧ oc = .returned (some (.int k)) ∧ st.heap.size ≤ t.heap.size ∧ va_P g.1 cl_X (xq_W g o T dk dn f) t.heap ∧ ∀ q : Nat, q < st.heap.size → ¬ wr_fr g o q → t.heap[q]? = st.heap[q]?
abbrev wdW (y : MethodName) (b : ByteArray) (n : Nat) (r : Option FieldType) (hh : List (Nat × Nat × Nat × Nat)) : List Cond := Cond.codeWith y b n r hh :: gw
def wr_M (l : Launch) (y : MethodName) (b : ByteArray) (n : Nat) (hh : List (Nat × Nat × Nat × Nat)) (d : Nat) (av : List Value) (g : xo_E) (o : Nat) (T : Nat → Int64) (dk : Nat → Int32) (dn : Int32) (f : Nat → Int64) (R : wr_T) : Prop :=
  Met l y (wdW y b n (some .int) hh) (rmD d 1 6) (va_Pc av (lq_F g o T dk dn f)) (wr_Q g o R) 1 6 (wr_fr g o)
section WQ
variable {p : Program} {l : Launch} {e : Env} {R : Room} {s : State} {m : MethodId} {args : Array Value} {below : List Frame} {meth : Method} {c : Code} {H : Heap} {locs : List Loc}
variable {cc : ByteArray} {pc : Nat} {ls : Array Slot} {g : xo_E} {o : Nat} {T : Nat → Int64} {dk : Nat → Int32} {dn : Int32} {f : Nat → Int64} {R0 : wr_T}
theorem wr_iret {k : Int32} (hexec : p.tables.exec = Jvm.exec) (hb : c.code = cc) (hr : meth.sig.returnType = some .int) (hlocks : meth.locks = false) (hdg : decode cc pc = .ok (.ireturn, 1)) (hP : va_P g.1 cl_X (xq_W g o T dk dn f) H) (hS : va_S (wr_fr g o) s.heap H locs) (hv : R0 k (f 0) T dk dn) :
    W p l e R s m args below meth c H locs 1 6 (MQ below (wr_Q g o R0) args s 1 6 (wr_fr g o)) (F0 m pc ls [.int k]) :=
  W.iret hexec hb hr (fun t ht _ => ⟨k, f, T, dk, dn, hv, rfl, by rw [ht]; exact hS.1, by rw [ht]; exact hP, fun q h1 h2 => by rw [ht]; exact hS.2.1 q h1 h2⟩) hS.2.2 hdg hlocks
/-- behind a call that returned: the long's array stands as before -/
theorem wr_back {H1 : Heap} {L : List Loc} {f : Nat → Int64} {T1 : Nat → Int64} {dk1 : Nat → Int32} {dn1 : Int32} (hO : va_P g.1 cl_X [(o, .inl (g.2.1, 1, .inr (.inl f)))] H) (ho : ¬ mu_fr g o) (hP : va_P g.1 cl_X (xo_W g T1 dk1 dn1) H1) (hz : H.size ≤ H1.size) (hk : ∀ q : Nat, q < H.size → ¬ mu_fr g q → H1[q]? = H[q]?) (hL : ∀ z ∈ L, mu_fr g z.base) :
    va_P g.1 cl_X (xq_W g o T1 dk1 dn1 f) H1 ∧ va_S (wr_fr g o) H H1 ([] ++ L) := by
  have hlt : o < H.size := (hO 0 _ rfl).lt
  refine ⟨va_P.app (w1 := xo_W g T1 dk1 dn1) hP (hO.kept (fun k q hq => ?_)), hz, fun q h1 h2 => hk q h1 (fun z => h2 (Or.inr z)), fun z hz => Or.inr (hL z hz)⟩
  match k with
  | 0 => cases hq; exact hk o hlt ho
  | n + 1 => cases hq
end WQ
