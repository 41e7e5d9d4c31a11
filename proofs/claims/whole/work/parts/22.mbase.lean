/-! the model as an object: its cells; contracts of its methods and their calls -/
abbrev mS : Type := Int32 × (Nat → Int32) × Int32 × (Nat → Int32) × (Nat → Int32) × (Nat → Int32) × Int32 × (Nat → Int32) × (Nat → Int32) × Int32 × (Nat → Int32) × Int32 × Int32 × Int32 × (Nat → Int32) × (Nat → Int32) × (Nat → Int32) × Int32 × Int32 × Int32
/-- where the model lies: the tables' numbers, the class of int arrays, the object (0) and its ten arrays -/
abbrev mo_E : Type := va_G × ClassId × (Nat → Nat)
abbrev mo_V (g : mo_E) (th : Int32) (ks : Nat → Int32) (kc : Int32) (rn : Nat → Int32) (oc : Nat → Int32) (hd : Nat → Int32) (hs : Int32) (se : Nat → Int32) (bd : Nat → Int32) (bs : Int32) (dk : Nat → Int32) (dp : Int32) (ct : Int32) (bo : Int32) (wi : Nat → Int32) (sh : Nat → Int32) (lf : Nat → Int32) (lc : Int32) (mo : Int32) (ah : Int32) : va_W := [(g.2.2 0, .inr (1, [.int th, .ref (g.2.2 1), .int kc, .ref (g.2.2 2), .ref (g.2.2 3), .ref (g.2.2 4), .int hs, .ref (g.2.2 5), .ref (g.2.2 6), .int bs, .ref (g.2.2 7), .int dp, .int ct, .int bo, .ref (g.2.2 8), .ref (g.2.2 9), .ref (g.2.2 10), .int lc, .int mo, .int ah])), (g.2.2 1, .inl (g.2.1, 7462, .inl ks)), (g.2.2 2, .inl (g.2.1, 5, .inl rn)), (g.2.2 3, .inl (g.2.1, 13, .inl oc)), (g.2.2 4, .inl (g.2.1, 7, .inl hd)), (g.2.2 5, .inl (g.2.1, 12, .inl se)), (g.2.2 6, .inl (g.2.1, 5, .inl bd)), (g.2.2 7, .inl (g.2.1, 52, .inl dk)), (g.2.2 8, .inl (g.2.1, 6, .inl wi)), (g.2.2 9, .inl (g.2.1, 6, .inl sh)), (g.2.2 10, .inl (g.2.1, 52, .inl lf))]
abbrev mo_W (g : mo_E) (S : mS) : va_W := mo_V g (S.1) (S.2.1) (S.2.2.1) (S.2.2.2.1) (S.2.2.2.2.1) (S.2.2.2.2.2.1) (S.2.2.2.2.2.2.1) (S.2.2.2.2.2.2.2.1) (S.2.2.2.2.2.2.2.2.1) (S.2.2.2.2.2.2.2.2.2.1) (S.2.2.2.2.2.2.2.2.2.2.1) (S.2.2.2.2.2.2.2.2.2.2.2.1) (S.2.2.2.2.2.2.2.2.2.2.2.2.1) (S.2.2.2.2.2.2.2.2.2.2.2.2.2.1) (S.2.2.2.2.2.2.2.2.2.2.2.2.2.2.1) (S.2.2.2.2.2.2.2.2.2.2.2.2.2.2.2.1) (S.2.2.2.2.2.2.2.2.2.2.2.2.2.2.2.2.1) (S.2.2.2.2.2.2.2.2.2.2.2.2.2.2.2.2.2.1) (S.2.2.2.2.2.2.2.2.2.2.2.2.2.2.2.2.2.2.1) (S.2.2.2.2.2.2.2.2.2.2.2.2.2.2.2.2.2.2.2)
def mo_ap (g : mo_E) : Prop := ∀ i j, i < 11 → j < 11 → g.2.2 i = g.2.2 j → i = j
def mo_fr (g : mo_E) (q : Nat) : Prop := ∃ i, i < 11 ∧ q = g.2.2 i
theorem mo_nth {g : mo_E} {th kc hs bs dp ct bo lc mo ah : Int32} {ks rn oc hd se bd dk wi sh lf : Nat → Int32} {i : Nat} {x : Nat × va_E} (h : (mo_V g th ks kc rn oc hd hs se bd bs dk dp ct bo wi sh lf lc mo ah)[i]? = some x) : i < 11 ∧ x.1 = g.2.2 i := by
  match i with
  | 0 => cases h; exact ⟨by decide, rfl⟩
  | 1 => cases h; exact ⟨by decide, rfl⟩
  | 2 => cases h; exact ⟨by decide, rfl⟩
  | 3 => cases h; exact ⟨by decide, rfl⟩
  | 4 => cases h; exact ⟨by decide, rfl⟩
  | 5 => cases h; exact ⟨by decide, rfl⟩
  | 6 => cases h; exact ⟨by decide, rfl⟩
  | 7 => cases h; exact ⟨by decide, rfl⟩
  | 8 => cases h; exact ⟨by decide, rfl⟩
  | 9 => cases h; exact ⟨by decide, rfl⟩
  | 10 => cases h; exact ⟨by decide, rfl⟩
  | n + 11 => cases h
theorem mo_D {g : mo_E} {th kc hs bs dp ct bo lc mo ah : Int32} {ks rn oc hd se bd dk wi sh lf : Nat → Int32} (h : mo_ap g) : va_D (mo_fr g) (mo_V g th ks kc rn oc hd hs se bd bs dk dp ct bo wi sh lf lc mo ah) := by
  refine ⟨fun i j x y hi hj hxy => ?_, fun k q hk => ?_⟩
  · obtain ⟨h1, h2⟩ := mo_nth hi
    obtain ⟨h3, h4⟩ := mo_nth hj
    exact h i j h1 h3 (by rw [← h2, ← h4]; exact hxy)
  · obtain ⟨h1, h2⟩ := mo_nth hk
    exact ⟨k, h1, h2⟩
def tf_M : Nat → FieldType := fun k => match k with
  | 0 => .int
  | 1 => .array .int
  | 2 => .int
  | 3 => .array .int
  | 4 => .array .int
  | 5 => .array .int
  | 6 => .int
  | 7 => .array .int
  | 8 => .array .int
  | 9 => .int
  | 10 => .array .int
  | 11 => .int
  | 12 => .boolean
  | 13 => .int
  | 14 => .array .int
  | 15 => .array .int
  | 16 => .array .int
  | 17 => .int
  | 18 => .int
  | _ => .int
theorem tf_M_ok : ∀ k, k < 20 → parseFieldDescriptor (T_M k).2.2.1 = some (tf_M k) := by decide +kernel
theorem n_M : ∀ a, a < 20 → ∀ b, b < 20 → a ≠ b → (T_M a).2.1 ≠ (T_M b).2.1 := by decide +kernel
def mo_F (g : mo_E) (S : mS) (U : State) : Prop := va_P g.1 cl_X (mo_W g S) U.heap ∧ va_K g.1 cl_X [(g.2.1, .int)] U
theorem bl_mo {g : mo_E} {S : mS} : bl_F (mo_F g S) := by
  intro u U hW hh h
  exact ⟨by rw [hh]; exact h.1, va_K.moved hW.alike h.2⟩
abbrev mm_T : Type := Option Value → mS → Prop
def mm_Q (g : mo_E) (R : mm_T) : Array Value → State → Outcome → State → Prop := fun _ st o t =>
  ∃ v S, R v S ∧ o = .returned v ∧ st.heap.size ≤ t.heap.size ∧ va_P g.1 cl_X (mo_W g S) t.heap ∧ ∀ q : Nat, q < st.heap.size → ¬ mo_fr g q → t.heap[q]? = st.heap[q]?
/-- the model's method: from the cells S it answers v and leaves the cells S', as R says -/
def mm_M (l : Launch) (y : MethodName) (b : ByteArray) (n : Nat) (ret : Option FieldType) (d : Nat) (av : List Value) (g : mo_E) (S : mS) (R : mm_T) : Prop :=
  Met l y (wd y b n ret) (rmD d 0 0) (va_Pc av (mo_F g S)) (mm_Q g R) 0 0 (mo_fr g)
section MM
variable {p : Program} {l : Launch} {e : Env} {R : Room} {s : State} {m : MethodId} {args : Array Value} {below : List Frame} {meth : Method} {c : Code} {H : Heap} {locs : List Loc} {cells slots : Nat} {Q : State → Prop}
variable {cc b : ByteArray} {pc nL n d index k o : Nat} {ls : Array Slot} {rest st0 : List Value} {own C : String} {y y0 : MethodName} {b0 : ByteArray} {n0 : Nat} {ret ret0 : Option FieldType} {av : List Value} {B : State → Prop} {g : mo_E} {S : mS} {R0 : mm_T} {r : Value}
theorem mm_end {v : Option Value} {t : State} (hv : R0 v S) (hP : va_P g.1 cl_X (mo_W g S) H) (hS : va_S (mo_fr g) s.heap H locs) (ht : t.heap = H) {a : Array Value} : mm_Q g R0 a s (.returned v) t :=
  ⟨v, S, hv, rfl, by rw [ht]; exact hS.1, by rw [ht]; exact hP, fun q h1 h2 => by rw [ht]; exact hS.2.1 q h1 h2⟩
theorem mm_iret {v : Int32} (hexec : p.tables.exec = Jvm.exec) (hb : c.code = cc) (hr : meth.sig.returnType = some .int) (hlocks : meth.locks = false) (hdg : decode cc pc = .ok (.ireturn, 1)) (hP : va_P g.1 cl_X (mo_W g S) H) (hS : va_S (mo_fr g) s.heap H locs) (hv : R0 (some (.int v)) S) :
    W p l e R s m args below meth c H locs 0 0 (MQ below (mm_Q g R0) args s 0 0 (mo_fr g)) (F0 m pc ls [.int v]) :=
  W.iret hexec hb hr (fun t ht _ => mm_end hv hP hS ht) hS.2.2 hdg hlocks
theorem mm_lret {v : Int64} (hexec : p.tables.exec = Jvm.exec) (hb : c.code = cc) (hr : meth.sig.returnType = some .long) (hlocks : meth.locks = false) (hdg : decode cc pc = .ok (.lreturn, 1)) (hP : va_P g.1 cl_X (mo_W g S) H) (hS : va_S (mo_fr g) s.heap H locs) (hv : R0 (some (.long v)) S) :
    W p l e R s m args below meth c H locs 0 0 (MQ below (mm_Q g R0) args s 0 0 (mo_fr g)) (F0 m pc ls [.long v]) :=
  W.lret hexec hb hr (fun t ht _ => mm_end hv hP hS ht) hS.2.2 hdg hlocks
theorem mm_zret {v : Int32} (hexec : p.tables.exec = Jvm.exec) (hb : c.code = cc) (hr : meth.sig.returnType = some .boolean) (hlocks : meth.locks = false) (hdg : decode cc pc = .ok (.ireturn, 1)) (h01 : v = 0 ∨ v = 1) (hP : va_P g.1 cl_X (mo_W g S) H) (hS : va_S (mo_fr g) s.heap H locs) (hv : R0 (some (.int v)) S) :
    W p l e R s m args below meth c H locs 0 0 (MQ below (mm_Q g R0) args s 0 0 (mo_fr g)) (F0 m pc ls [.int v]) := by
  refine W.zret hexec hb hr ?_ (fun t ht _ => mm_end hv hP hS ht) hS.2.2 hdg hlocks
  rcases h01 with h | h <;> subst h <;> rfl
theorem mm_vret (hexec : p.tables.exec = Jvm.exec) (hb : c.code = cc) (hr : meth.sig.returnType = none) (hlocks : meth.locks = false) (hdg : decode cc pc = .ok (.return_, 1)) (hP : va_P g.1 cl_X (mo_W g S) H) (hS : va_S (mo_fr g) s.heap H locs) (hv : R0 none S) :
    W p l e R s m args below meth c H locs 0 0 (MQ below (mm_Q g R0) args s 0 0 (mo_fr g)) (F0 m pc ls []) :=
  W.vret hexec hb hr (fun t ht _ => mm_end hv hP hS ht) hS.2.2 hdg hlocks
/-- the call of a method of the model, where A0 may have changed before -/
theorem mm_VA {A0 : Nat → Prop} (hM : mm_M l y b n ret d (.ref (g.2.2 0) :: av) g S R0) (he : st0 = av.reverse ++ .ref (g.2.2 0) :: rest) (hc : cv_W own index "HandTablesModel" y b n ret k) (S9 : CallFix p m c cc nL s args (wd y0 b0 n0 ret0) own) (hK : va_K g.1 cl_X [(g.2.1, .int)] s) (hP : va_P g.1 cl_X (mo_W g S) H)
    (hR : (d + 1 ≤ R.frames ∧ 8 + (n + 11) + 70 * d ≤ R.locals)) (hl : ls.size = nL) (hk : av.length = k) (hst : (rest.map fun v => v.category).sum ≤ 8) (hf : cells ≤ R.cells ∧ slots ≤ R.slots) (hdg : decode cc pc = .ok (.invokevirtual index, 3)) (hS : va_S A0 s.heap H locs) (hsub : ∀ q, mo_fr g q → A0 q)
    (kk : ∀ (v : Option Value) (S1 : mS) (H1 : Heap) (locs1 : List Loc), R0 v S1 → va_P g.1 cl_X (mo_W g S1) H1 → va_S A0 s.heap H1 locs1 → H.size ≤ H1.size → (∀ q : Nat, q < H.size → ¬ mo_fr g q → H1[q]? = H[q]?) → W p l e R s m args below meth c H1 locs1 cells slots Q (F0 m (pc + 3) ls (v.toList ++ rest))) : W p l e R s m args below meth c H locs cells slots Q (F0 m pc ls st0) := by
  subst he
  have hrc := va_recv (q0 := 0) (ci := 1) (q := ("HandTablesModel", T_M, 20)) hK hP rfl rfl
  have hr := va_runV (C := "HandTablesModel") (b := g.2.2 0) (As := av) (rest := rest) (e := e) (below := below) (meth := meth) (H := H) (locs := locs) (cells := cells) (slots := slots) (g := F0 m pc ls (av.reverse ++ .ref (g.2.2 0) :: rest)) S9 hM (cwV k S9.2.2.2.2 (cv_good hc) rfl rfl rfl hc.2.2.2.2.2 hR) ⟨bl_blind bl_mo, hrc, fun U hU hW => ⟨rfl, by rw [hU]; exact hP, va_K.moved hW.alike hK⟩⟩ rfl hk hl rfl (by show 2 * 0 + _ ≤ 8; omega) hdg hf
  intro X hX Y
  obtain ⟨v, st₀, t, T', L, h0, X', hL, e1, e2, ⟨v', S1, hres, hv, hz, hp, hk1⟩, st⟩ := hr X hX Y
  cases hv
  rw [h0] at hz hk1
  obtain ⟨t2, a1, b1⟩ := kk v S1 T'.heap (locs ++ L) hres (by rw [e1]; exact hp) ⟨Nat.le_trans hS.1 (by rw [e1]; exact hz), fun q h1 h2 => by rw [e1, hk1 q (Nat.lt_of_lt_of_le h1 hS.1) (fun z => h2 (hsub q z))]; exact hS.2.1 q h1 h2, fun q hq => by
      rcases List.mem_append.mp hq with h | h
      · exact hS.2.2 q h
      · exact hsub _ (hL q h)⟩ (by rw [e1]; exact hz) (fun q h1 h2 => by rw [e1]; exact hk1 q h1 h2) T' rfl X'
  exact ⟨t2, st t2 a1, b1⟩
theorem mm_V (hM : mm_M l y b n ret d (.ref (g.2.2 0) :: av) g S R0) (he : st0 = av.reverse ++ .ref (g.2.2 0) :: rest) (hc : cv_W own index "HandTablesModel" y b n ret k) (S9 : CallFix p m c cc nL s args (wd y0 b0 n0 ret0) own) (hK : va_K g.1 cl_X [(g.2.1, .int)] s) (hP : va_P g.1 cl_X (mo_W g S) H)
    (hR : (d + 1 ≤ R.frames ∧ 8 + (n + 11) + 70 * d ≤ R.locals)) (hl : ls.size = nL) (hk : av.length = k) (hst : (rest.map fun v => v.category).sum ≤ 8) (hf : cells ≤ R.cells ∧ slots ≤ R.slots) (hdg : decode cc pc = .ok (.invokevirtual index, 3)) (hS : va_S (mo_fr g) s.heap H locs)
    (kk : ∀ (v : Option Value) (S1 : mS) (H1 : Heap) (locs1 : List Loc), R0 v S1 → va_P g.1 cl_X (mo_W g S1) H1 → va_S (mo_fr g) s.heap H1 locs1 → W p l e R s m args below meth c H1 locs1 cells slots Q (F0 m (pc + 3) ls (v.toList ++ rest))) : W p l e R s m args below meth c H locs cells slots Q (F0 m pc ls st0) :=
  mm_VA hM he hc S9 hK hP hR hl hk hst hf hdg hS (fun _ h => h) (fun v S1 H1 locs1 h1 h2 h3 _ _ => kk v S1 H1 locs1 h1 h2 h3)
/-- a static pure call in a heap that has changed -/
theorem pu_SH {av : List Value} (hM : pu_M l y b n ret d av (fun _ => True) r) (he : st0 = av.reverse ++ rest) (hc : cs_W own index y b n ret k) (S9 : CallFix p m c cc nL s args (wd y0 b0 n0 ret0) own)
    (hR : (d + 1 ≤ R.frames ∧ 8 + (n + 11) + 70 * d ≤ R.locals)) (hl : ls.size = nL) (hk : av.length = k) (hst : (rest.map fun v => v.category).sum ≤ 8) (hf : cells ≤ R.cells ∧ slots ≤ R.slots) (hdg : decode cc pc = .ok (.invokestatic index, 3))
    (kk : W p l e R s m args below meth c H locs cells slots Q (F0 m (pc + 3) ls (r :: rest))) : W p l e R s m args below meth c H locs cells slots Q (F0 m pc ls st0) := by
  subst he
  exact pu_call (va_runS (As := av) (rest := rest) S9 hM (va_cwS k S9.2.2.2.2 (cs_good hc) rfl rfl rfl hc.2.2.2.2 hR) ⟨bl_blind bl_T, fun U hU hW => ⟨rfl, trivial⟩⟩ rfl hk hl rfl (by show 2 * 0 + _ ≤ 8; omega) hdg hf) kk
theorem mm_go {H0 : Heap} {L0 : List Loc} {f : JFrame} (h1 : H0 = H) (h2 : L0 = locs) (k : W p l e R s m args below meth c H locs cells slots Q f) : W p l e R s m args below meth c H0 L0 cells slots Q f := by
  subst h1; subst h2; exact k
/-- two longs are compared, and the branch is taken where the first is no greater -/
theorem jv_lcle (hexec : p.tables.exec = Jvm.exec) (hb : c.code = cc) {x y : Int64} {off : Int} {tgt : Nat} (h1 : decode cc pc = .ok (.lcmp, 1)) (h2 : decode cc (pc + 1) = .ok (.ifCond .le off, 3)) (ht : ((pc + 1 : Nat) : Int) + off = (tgt : Int))
    (kt : x ≤ y → W p l e R s m args below meth c H locs cells slots Q (F0 m tgt ls rest)) (kf : ¬ x ≤ y → W p l e R s m args below meth c H locs cells slots Q (F0 m (pc + 4) ls rest)) : W p l e R s m args below meth c H locs cells slots Q (F0 m pc ls (.long y :: .long x :: rest)) := by
  refine W.lcmp hexec hb h1 (lv_if_le hexec hb h2 ht (fun h => kt ?_) (fun h => kf ?_))
  · unfold lg_cmp at h
    split at h
    · exact absurd h (by decide)
    · rename_i e8
      exact Int64.not_lt.mp e8
  · unfold lg_cmp at h
    split at h
    · rename_i e8
      exact Int64.not_le.mpr e8
    · split at h
      · exact absurd (by decide) h
      · exact absurd (by decide) h
end MM
/-- what a contract says may be said in other words -/
theorem mm_imp {l : Launch} {y : MethodName} {b : ByteArray} {n d : Nat} {ret : Option FieldType} {av : List Value} {g : mo_E} {S : mS} {R R' : mm_T} (h : mm_M l y b n ret d av g S R) (hi : ∀ v S', R v S' → R' v S') : mm_M l y b n ret d av g S R' := by
  intro p e h1 h2 h3 s m args below h4 h5 h6 h7
  obtain ⟨n0, o, a1, b1, c1, ⟨⟨v, S1, r1, r2⟩, r3⟩⟩ := h p e h1 h2 h3 s m args below h4 h5 h6 h7
  exact ⟨n0, o, a1, b1, c1, ⟨⟨v, S1, hi _ _ r1, r2⟩, r3⟩⟩
