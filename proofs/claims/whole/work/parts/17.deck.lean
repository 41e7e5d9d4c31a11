/-! the deck -/
def xw_F (g : xo_E) (T : Nat → Int64) (K : Nat → Int32) (n : Int32) (U : State) : Prop := va_P g.1 cl_X (xo_W g T K n) U.heap ∧ va_K g.1 cl_X [(g.2.1, .long), (g.2.2.1, .int)] U
theorem bl_xw {g : xo_E} {T : Nat → Int64} {K : Nat → Int32} {n : Int32} : bl_F (xw_F g T K n) := by
  intro u U hW hh h
  exact ⟨by rw [hh]; exact h.1, va_K.moved hW.alike h.2⟩
def mw_M (l : Launch) (y : MethodName) (b : ByteArray) (n : Nat) (ret : Option FieldType) (d : Nat) (av : List Value) (g : xo_E) (B : State → Prop) (res : mu_R) : Prop :=
  Met l y (wd y b n ret) (rmD d 0 0) (va_Pc av B) (mu_Q g res) 0 0 (mu_fr g)
section MW
variable {p : Program} {l : Launch} {e : Env} {R : Room} {s : State} {m : MethodId} {args : Array Value} {below : List Frame} {meth : Method} {c : Code} {H : Heap} {locs : List Loc} {cells slots : Nat} {Q : State → Prop}
variable {cc b : ByteArray} {pc nL n d index k o : Nat} {ls : Array Slot} {rest st0 : List Value} {own C : String} {y y0 : MethodName} {b0 : ByteArray} {n0 : Nat} {ret ret0 : Option FieldType} {av : List Value} {B : State → Prop} {res0 : mu_R} {g : xo_E} {T : Nat → Int64} {dk : Nat → Int32} {dn : Int32}
theorem mw_vret (hexec : p.tables.exec = Jvm.exec) (hb : c.code = cc) (hr : meth.sig.returnType = none) (hlocks : meth.locks = false) (hdg : decode cc pc = .ok (.return_, 1)) (hP : va_P g.1 cl_X (xo_W g T dk dn) H) (hS : va_S (mu_fr g) s.heap H locs) (hv : res0 = .inr (none, T, dk, dn)) :
    W p l e R s m args below meth c H locs 0 0 (MQ below (mu_Q g res0) args s 0 0 (mu_fr g)) (F0 m pc ls []) :=
  W.vret hexec hb hr (fun t ht _ => mu_end hv hP hS ht) hS.2.2 hdg hlocks
/-- the call of a method that changes the object's cells and answers nothing -/
theorem mw_V (hM : mw_M l y b n ret d (.ref o :: av) g B (.inr (none, T, dk, dn))) (he : st0 = av.reverse ++ .ref o :: rest) (hc : cv_W own index C y b n ret k) (S : CallFix p m c cc nL s args (wd y0 b0 n0 ret0) own) (hB : ∀ U : State, U.heap = H → s.WarmedH U.vm → B U) (hBl : bl_F B) (hrc : ∃ cell : Cell, H[o]? = some cell ∧ cell.vm.isStatics = false ∧ s.vm.findClass C = some cell.cls)
    (hR : (d + 1 ≤ R.frames ∧ 8 + (n + 11) + 70 * d ≤ R.locals)) (hl : ls.size = nL) (hk : av.length = k) (hst : (rest.map fun v => v.category).sum ≤ 8) (hf : cells ≤ R.cells ∧ slots ≤ R.slots) (hdg : decode cc pc = .ok (.invokevirtual index, 3)) (hS : va_S (mu_fr g) s.heap H locs)
    (kk : ∀ (H1 : Heap) (locs1 : List Loc), va_P g.1 cl_X (xo_W g T dk dn) H1 → va_S (mu_fr g) s.heap H1 locs1 → W p l e R s m args below meth c H1 locs1 cells slots Q (F0 m (pc + 3) ls rest)) : W p l e R s m args below meth c H locs cells slots Q (F0 m pc ls st0) := by
  subst he
  have hr := va_runV (C := C) (b := o) (As := av) (rest := rest) (e := e) (below := below) (meth := meth) (H := H) (locs := locs) (cells := cells) (slots := slots) (g := F0 m pc ls (av.reverse ++ .ref o :: rest)) S hM (cwV k S.2.2.2.2 (cv_good hc) rfl rfl rfl hc.2.2.2.2.2 hR) ⟨bl_blind hBl, hrc, fun U hU hW => ⟨rfl, hB U hU hW⟩⟩ rfl hk hl rfl (by show 2 * 0 + _ ≤ 8; omega) hdg hf
  intro X hX Y
  obtain ⟨v, st₀, t, T', L, h0, X', hL, e1, e2, ⟨v', T1, k1, n1, hres, hv, hz, hp, hk1⟩, st⟩ := hr X hX Y
  cases hv
  cases hres
  rw [h0] at hz hk1
  obtain ⟨t2, a1, b1⟩ := kk T'.heap (locs ++ L) (by rw [e1]; exact hp) ⟨Nat.le_trans hS.1 (by rw [e1]; exact hz), fun q h1 h2 => by rw [e1, hk1 q (Nat.lt_of_lt_of_le h1 hS.1) h2]; exact hS.2.1 q h1 h2, fun q hq => by
      rcases List.mem_append.mp hq with h | h
      · exact hS.2.2 q h
      · exact hL q h⟩ T' rfl X'
  exact ⟨t2, st t2 a1, b1⟩
end MW
def sd_lp : Nat → (Nat → Int32) → Nat → Int32
  | 0, f => f
  | n + 1, f => sd_lp n (upd f (nI (52 - (n + 1))).toNatClampNeg (nI (52 - (n + 1))))
def g_sorted (f : Nat → Int32) : Nat → Int32 := sd_lp 52 f
set_option maxHeartbeats 4000000 in
set_option maxRecDepth 100000 in
theorem cA_sortDeck (l : Launch) (g : xo_E) (T : Nat → Int64) (dk : Nat → Int32) (dn : Int32)  (hap : xo_ap g)  : mw_M l yA_sortDeck bA_sortDeck 2 none 0 [.ref (xo_a g)] g (xw_F g T dk dn) (.inr (none, T, g_sorted dk, 0)) := by
  refine Met.ofW (cc := bA_sortDeck) (maxL := 2) (ret := none) (by decide) rfl ?_
  intro p e s m args below meth c s₁ BB hml hv
  obtain ⟨rfl, hB⟩ := hv
  have hx := BB.exec
  have hb := BB.bytes
  have hr := BB.returns
  have hlk := BB.notSynchronized
  have hts := atoms_spec (ws := wd yA_sortDeck bA_sortDeck 2 none) BB.pre
  have hown : s.vm.findClass "HandTables" = some m.cls := findClass_of_methodNamed BB.named
  have hS : CallFix p m c bA_sortDeck 2 s _ (wd yA_sortDeck bA_sortDeck 2 none) "HandTables" := ⟨hx, hb, hml, hown, hts⟩
  obtain ⟨hP, hK⟩ := id hB
  have hD := xo_D T dk dn hap
  have hSS : va_S (mu_fr g) s.heap s.heap [] := va_S.rf
  have hl := lv_entry ([.ref (xo_a g)]) (n := 2) (Nat.le_of_ble_eq_true rfl)
  rw [lg_entry_eq]
  generalize (lg_sl ([.ref (xo_a g)]) ++ List.replicate (2 - (lg_sl ([.ref (xo_a g)])).length) Slot.unset).toArray = ls at hl ⊢
  have hl : lv_has ls 2 [(0, .ref (xo_a g))] := hl
  refine lv_iconst (v := 0) hx hb dA_sortDeck_0 (by decide) ?_
  refine jt_topi (fun x1 ex1 => ?_)
  refine lv_istore_n (lv' := [(1, .int x1), (0, .ref (xo_a g))]) hx hb dA_sortDeck_1 rfl hl (by decide) rfl (fun ls hl => ?_)
  have hloop : ∀ (n : Nat)  (wT : Nat → Int64) (wk : Nat → Int32) (wn : Int32) (H : Heap) (locs : List Loc) (ls : Array Slot), lv_has ls 2 [(1, .int (nI (52 - n))), (0, .ref (xo_a g))] → va_P g.1 cl_X (xo_W g wT wk wn) H → va_D (mu_fr g) (xo_W g wT wk wn) → va_S (mu_fr g) s.heap H locs → (n ≤ 52) → (∀ (H : Heap) (locs : List Loc) (ls : Array Slot), lv_has ls 2 [(0, .ref (xo_a g))] → va_P g.1 cl_X (xo_W g wT (sd_lp n wk) wn) H → va_D (mu_fr g) (xo_W g wT (sd_lp n wk) wn) → va_S (mu_fr g) s.heap H locs → W p l e (headSpec (wd yA_sortDeck bA_sortDeck 2 none) (rmD 0 0 0)).room s m ([.ref (xo_a g)]).toArray below meth c H locs 0 0 (MQ below (mu_Q g (.inr (none, T, g_sorted dk, 0))) ([.ref (xo_a g)]).toArray s 0 0 (mu_fr g)) (F0 m 21 ls [])) → W p l e (headSpec (wd yA_sortDeck bA_sortDeck 2 none) (rmD 0 0 0)).room s m ([.ref (xo_a g)]).toArray below meth c H locs 0 0 (MQ below (mu_Q g (.inr (none, T, g_sorted dk, 0))) ([.ref (xo_a g)]).toArray s 0 0 (mu_fr g)) (F0 m 2 ls []) := by
    intro n
    induction n with
    | zero =>
      intro  wT wk wn H locs ls hl hP hD hSS hn K
      refine lv_iload_n hx hb dA_sortDeck_2 rfl (lv_at hl 0 rfl) ?_
      refine lv_bipush (v := 52) hx hb dA_sortDeck_3 (by decide) ?_
      refine lv_icmp_ge (tgt := 21) hx hb dA_sortDeck_5 (by decide) (fun hc2 => ?_) (fun hc2 => ?_)
      · simp only [sd_lp] at K
        exact K _ _ _ (lv_sub hl [1] rfl) hP hD hSS
      · exact absurd (by decide) hc2
    | succ n ih =>
      intro  wT wk wn H locs ls hl hP hD hSS hn K
      refine lv_iload_n hx hb dA_sortDeck_2 rfl (lv_at hl 0 rfl) ?_
      refine lv_bipush (v := 52) hx hb dA_sortDeck_3 (by decide) ?_
      refine lv_icmp_ge (tgt := 21) hx hb dA_sortDeck_5 (by decide) (fun hc3 => ?_) (fun hc3 => ?_)
      · exact absurd hc3 (nI_ge (b := 52) (by omega) (by decide))
      · refine lv_aload_n hx hb dA_sortDeck_8 rfl (lv_at hl 1 rfl) ?_
        refine va_get (D := g.1) (ci := 0) (v := .ref (xo_d g)) (C := "HandTables") (T := T_A) (N := 3) hx hb hts (fun w hw => wd_in (u_inA w hw)) hown hK hP 0 rfl rfl 1 (by decide) (hts _ (wd_in (gw_mem 50 rfl rfl))) (fun _ h => h) rfl dA_sortDeck_9 ?_
        refine lv_iload_n hx hb dA_sortDeck_12 rfl (lv_at hl 0 rfl) ?_
        refine lv_iload_n hx hb dA_sortDeck_13 rfl (lv_at hl 0 rfl) ?_
        refine va_iast (x := (nI (52 - (n + 1)))) hx hb hK hP hD hSS 2 1 rfl rfl (vp_in_nI (by omega) (by decide)) dA_sortDeck_14 (fun H locs hP hD hSS => ?_)
        have hP : va_P g.1 cl_X (xo_W g wT (upd wk ((nI (52 - (n + 1))) : Int32).toNatClampNeg (nI (52 - (n + 1)))) wn) H := hP
        have hD : va_D (mu_fr g) (xo_W g wT (upd wk ((nI (52 - (n + 1))) : Int32).toNatClampNeg (nI (52 - (n + 1)))) wn) := hD
        refine jv_iinc (a := 1) hx hb dA_sortDeck_15 hl (k := 0) rfl (by decide) (by decide) (fun x4 ex4 ls hl => ?_)
        have hl : lv_has ls 2 [(1, .int x4), (0, .ref (xo_a g))] := hl
        refine lv_goto (tgt := 2) hx hb dA_sortDeck_18 (by decide) ?_
        rw [nI_up (by omega)] at ex4
        subst ex4
        simp only [sd_lp] at K
        exact ih  _ _ _ _ _ ls (lv_sub hl [0, 1] rfl) hP hD hSS (by omega) K
  refine hloop 52  T dk dn _ _ ls (by have h9 := lv_sub hl [0, 1] rfl; subst ex1; exact h9) hP hD hSS (by decide) (fun H locs ls hl hP hD hSS => ?_)
  clear hloop
  refine lv_aload_n hx hb dA_sortDeck_21 rfl (lv_at hl 0 rfl) ?_
  refine lv_iconst (v := 0) hx hb dA_sortDeck_22 (by decide) ?_
  refine va_put (D := g.1) (ci := 0) (v := .int 0) (ty := .int) (C := "HandTables") (T := T_A) (N := 3) hx hb hts (fun w hw => wd_in (u_inA w hw)) tf_A tf_A_ok n_A hown hK hP hD hSS 0 rfl rfl 2 (by decide) (hts _ (wd_in (gw_mem 51 rfl rfl))) (fun _ h => h) rfl (by decide +kernel) rfl rfl (Nat.le_of_ble_eq_true rfl) dA_sortDeck_23 (fun H locs hP hD hSS => ?_)
  have hP : va_P g.1 cl_X (xo_W g T (sd_lp 52 dk) 0) H := hP
  have hD : va_D (mu_fr g) (xo_W g T (sd_lp 52 dk) 0) := hD
  exact mw_vret hx hb hr hlk dA_sortDeck_26 hP hSS (by subst ex1; (try simp only []) <;> rfl)
def sh_j (x i : Int32) : Int32 := jrem (jri (x &&& 2147483647) 8) (i + 1)
def sh_x (x : Int32) : Int32 := x * 1103515245 + 12345
def sh_lp : Nat → Int32 → (Nat → Int32) → Nat → Int32
  | 0, _, f => f
  | n + 1, x, f => sh_lp n (sh_x x) (upd (upd f (nI (n + 1)).toNatClampNeg (f (sh_j (sh_x x) (nI (n + 1))).toNatClampNeg)) (sh_j (sh_x x) (nI (n + 1))).toNatClampNeg (f (nI (n + 1)).toNatClampNeg))
def g_shuf (x : Int32) (f : Nat → Int32) : Nat → Int32 := sh_lp 51 x (g_sorted f)
theorem sh_le (x : Int32) {k : Nat} (hk : k ≤ 51) : ∃ j, j ≤ k ∧ sh_j x (nI k) = nI j := by
  obtain ⟨a, ha, e⟩ := pk_andE x (m := 2147483647) 31 (by decide)
  have h1 : jri (nI a) 8 = nI (a / 2 ^ 8) := pk_shrN ha _ 8 (by decide)
  refine ⟨(a / 2 ^ 8) % (k + 1), Nat.le_of_lt_succ (Nat.mod_lt (a / 2 ^ 8) (Nat.succ_pos k)), ?_⟩
  unfold sh_j
  rw [e, h1, nI_1]
  exact pk_rem (by omega) (by omega) (by omega)
theorem sh_in (x : Int32) {k : Nat} (hk : k ≤ 51) : vp_in (jrem (jri (x &&& 2147483647) 8) (nI k + 1)) 52 := by
  obtain ⟨j, hj, e⟩ := sh_le x hk
  have e : jrem (jri (x &&& 2147483647) 8) (nI k + 1) = nI j := e
  rw [e]
  exact vp_in_nI (by omega) (by decide)
set_option maxHeartbeats 4000000 in
set_option maxRecDepth 100000 in
theorem cA_shuffle (l : Launch) (g : xo_E) (T : Nat → Int64) (dk : Nat → Int32) (dn : Int32) (q : Int32) (hap : xo_ap g)  : mw_M l yA_shuffle bA_shuffle 6 none 1 [.ref (xo_a g), .int q] g (xw_F g T dk dn) (.inr (none, T, g_shuf q dk, 0)) := by
  refine Met.ofW (cc := bA_shuffle) (maxL := 6) (ret := none) (by decide) rfl ?_
  intro p e s m args below meth c s₁ BB hml hv
  obtain ⟨rfl, hB⟩ := hv
  have hx := BB.exec
  have hb := BB.bytes
  have hr := BB.returns
  have hlk := BB.notSynchronized
  have hts := atoms_spec (ws := wd yA_shuffle bA_shuffle 6 none) BB.pre
  have hown : s.vm.findClass "HandTables" = some m.cls := findClass_of_methodNamed BB.named
  have hS : CallFix p m c bA_shuffle 6 s _ (wd yA_shuffle bA_shuffle 6 none) "HandTables" := ⟨hx, hb, hml, hown, hts⟩
  obtain ⟨hP, hK⟩ := id hB
  have hD := xo_D T dk dn hap
  have hSS : va_S (mu_fr g) s.heap s.heap [] := va_S.rf
  have hl := lv_entry ([.ref (xo_a g), .int q]) (n := 6) (Nat.le_of_ble_eq_true rfl)
  rw [lg_entry_eq]
  generalize (lg_sl ([.ref (xo_a g), .int q]) ++ List.replicate (6 - (lg_sl ([.ref (xo_a g), .int q])).length) Slot.unset).toArray = ls at hl ⊢
  have hl : lv_has ls 6 [(0, .ref (xo_a g)), (1, .int q)] := hl
  refine lv_aload_n hx hb dA_shuffle_0 rfl (lv_at hl 0 rfl) ?_
  refine mw_V (cA_sortDeck l g T dk dn hap) rfl kA_A_sortDeck hS (fun U hU hW => ⟨by rw [hU]; exact hP, va_K.moved hW.alike hK⟩) bl_xw (va_recv (q0 := 0) (ci := 0) (q := ("HandTables", T_A, 3)) hK hP rfl rfl) ⟨Nat.le_of_ble_eq_true rfl, Nat.le_of_ble_eq_true rfl⟩ hl.1 rfl (Nat.le_of_ble_eq_true rfl) ⟨Nat.zero_le _, Nat.zero_le _⟩ dA_shuffle_1 hSS (fun H locs hP hSS => ?_)
  have hD := xo_D T (g_sorted dk) 0 hap
  refine lv_iload_n hx hb dA_shuffle_4 rfl (lv_at hl 1 rfl) ?_
  refine jt_topi (fun x1 ex1 => ?_)
  refine lv_istore_n (lv' := [(2, .int x1), (0, .ref (xo_a g)), (1, .int q)]) hx hb dA_shuffle_5 rfl hl (by decide) rfl (fun ls hl => ?_)
  refine lv_bipush (v := 51) hx hb dA_shuffle_6 (by decide) ?_
  refine jt_topi (fun x2 ex2 => ?_)
  refine lv_istore_n (lv' := [(3, .int x2), (2, .int x1), (0, .ref (xo_a g)), (1, .int q)]) hx hb dA_shuffle_8 rfl hl (by decide) rfl (fun ls hl => ?_)
  have hloop : ∀ (n : Nat) (x : Int32) (wT : Nat → Int64) (wk : Nat → Int32) (wn : Int32) (H : Heap) (locs : List Loc) (ls : Array Slot), lv_has ls 6 [(3, .int (nI n)), (2, .int x), (0, .ref (xo_a g))] → va_P g.1 cl_X (xo_W g wT wk wn) H → va_D (mu_fr g) (xo_W g wT wk wn) → va_S (mu_fr g) s.heap H locs → (n ≤ 51) → (∀ (H : Heap) (locs : List Loc) (ls : Array Slot), lv_has ls 6 [(0, .ref (xo_a g))] → va_P g.1 cl_X (xo_W g wT (sh_lp n x wk) wn) H → va_D (mu_fr g) (xo_W g wT (sh_lp n x wk) wn) → va_S (mu_fr g) s.heap H locs → W p l e (headSpec (wd yA_shuffle bA_shuffle 6 none) (rmD 1 0 0)).room s m ([.ref (xo_a g), .int q]).toArray below meth c H locs 0 0 (MQ below (mu_Q g (.inr (none, T, g_shuf q dk, 0))) ([.ref (xo_a g), .int q]).toArray s 0 0 (mu_fr g)) (F0 m 72 ls [])) → W p l e (headSpec (wd yA_shuffle bA_shuffle 6 none) (rmD 1 0 0)).room s m ([.ref (xo_a g), .int q]).toArray below meth c H locs 0 0 (MQ below (mu_Q g (.inr (none, T, g_shuf q dk, 0))) ([.ref (xo_a g), .int q]).toArray s 0 0 (mu_fr g)) (F0 m 9 ls []) := by
    intro n
    induction n with
    | zero =>
      intro x wT wk wn H locs ls hl hP hD hSS hn K
      refine lv_iload_n hx hb dA_shuffle_9 rfl (lv_at hl 0 rfl) ?_
      refine lv_iconst (v := 1) hx hb dA_shuffle_10 (by decide) ?_
      refine lv_icmp_lt (tgt := 72) hx hb dA_shuffle_11 (by decide) (fun hc3 => ?_) (fun hc3 => ?_)
      · simp only [sh_lp, sh_x, sh_j] at K
        exact K _ _ _ (lv_sub hl [2] rfl) hP hD hSS
      · exact absurd (by decide) hc3
    | succ n ih =>
      intro x wT wk wn H locs ls hl hP hD hSS hn K
      refine lv_iload_n hx hb dA_shuffle_9 rfl (lv_at hl 0 rfl) ?_
      refine lv_iconst (v := 1) hx hb dA_shuffle_10 (by decide) ?_
      refine lv_icmp_lt (tgt := 72) hx hb dA_shuffle_11 (by decide) (fun hc4 => ?_) (fun hc4 => ?_)
      · exact absurd hc4 (by have := nI_nlt (a := n + 1) (b := 1) (by omega) (by omega); exact this)
      · refine lv_iload_n hx hb dA_shuffle_14 rfl (lv_at hl 1 rfl) ?_
        refine lv_ldc (v := 1103515245) hx hb hown (hts _ (wd_in (gw_mem 79 rfl rfl))) dA_shuffle_15 ?_
        refine lv_imul hx hb dA_shuffle_17 ?_
        refine lv_sipush (v := 12345) hx hb dA_shuffle_18 (by decide) ?_
        refine lv_iadd hx hb dA_shuffle_21 ?_
        refine jt_topi (fun x5 ex5 => ?_)
        refine lv_istore_n (lv' := [(2, .int x5), (3, .int (nI (n + 1))), (0, .ref (xo_a g))]) hx hb dA_shuffle_22 rfl hl (by decide) rfl (fun ls hl => ?_)
        refine lv_iload_n hx hb dA_shuffle_23 rfl (lv_at hl 0 rfl) ?_
        refine lv_ldc (v := 2147483647) hx hb hown (hts _ (wd_in (gw_mem 80 rfl rfl))) dA_shuffle_24 ?_
        refine lv_iand hx hb dA_shuffle_26 ?_
        refine lv_bipush (v := 8) hx hb dA_shuffle_27 (by decide) ?_
        refine jv_ishr hx hb dA_shuffle_29 ?_
        refine lv_iload_n hx hb dA_shuffle_30 rfl (lv_at hl 1 rfl) ?_
        refine lv_iconst (v := 1) hx hb dA_shuffle_31 (by decide) ?_
        refine lv_iadd hx hb dA_shuffle_32 ?_
        refine jv_irem hx hb dA_shuffle_33 (by rw [nI_1]; exact nI_ne0 (by omega) (by omega)) ?_
        refine jt_topi (fun x6 ex6 => ?_)
        refine lv_istore (lv' := [(4, .int x6), (2, .int x5), (3, .int (nI (n + 1))), (0, .ref (xo_a g))]) hx hb dA_shuffle_34 hl (by decide) rfl (fun ls hl => ?_)
        refine lv_aload_n hx hb dA_shuffle_36 rfl (lv_at hl 3 rfl) ?_
        refine va_get (D := g.1) (ci := 0) (v := .ref (xo_d g)) (C := "HandTables") (T := T_A) (N := 3) hx hb hts (fun w hw => wd_in (u_inA w hw)) hown hK hP 0 rfl rfl 1 (by decide) (hts _ (wd_in (gw_mem 50 rfl rfl))) (fun _ h => h) rfl dA_shuffle_37 ?_
        refine lv_iload_n hx hb dA_shuffle_40 rfl (lv_at hl 2 rfl) ?_
        refine va_iald hx hb hK hP 2 1 rfl rfl (vp_in_nI (by omega) (by decide)) dA_shuffle_41 ?_
        refine jt_topi (fun x7 ex7 => ?_)
        refine lv_istore (lv' := [(5, .int x7), (4, .int x6), (2, .int x5), (3, .int (nI (n + 1))), (0, .ref (xo_a g))]) hx hb dA_shuffle_42 hl (by decide) rfl (fun ls hl => ?_)
        refine lv_aload_n hx hb dA_shuffle_44 rfl (lv_at hl 4 rfl) ?_
        refine va_get (D := g.1) (ci := 0) (v := .ref (xo_d g)) (C := "HandTables") (T := T_A) (N := 3) hx hb hts (fun w hw => wd_in (u_inA w hw)) hown hK hP 0 rfl rfl 1 (by decide) (hts _ (wd_in (gw_mem 50 rfl rfl))) (fun _ h => h) rfl dA_shuffle_45 ?_
        refine lv_iload_n hx hb dA_shuffle_48 rfl (lv_at hl 3 rfl) ?_
        refine lv_aload_n hx hb dA_shuffle_49 rfl (lv_at hl 4 rfl) ?_
        refine va_get (D := g.1) (ci := 0) (v := .ref (xo_d g)) (C := "HandTables") (T := T_A) (N := 3) hx hb hts (fun w hw => wd_in (u_inA w hw)) hown hK hP 0 rfl rfl 1 (by decide) (hts _ (wd_in (gw_mem 50 rfl rfl))) (fun _ h => h) rfl dA_shuffle_50 ?_
        refine lv_iload hx hb dA_shuffle_53 (lv_at hl 1 rfl) ?_
        refine va_iald hx hb hK hP 2 1 rfl rfl (by subst_vars; exact sh_in _ hn) dA_shuffle_55 ?_
        refine jt_topi (fun x8 ex8 => ?_)
        refine va_iast (x := x8) hx hb hK hP hD hSS 2 1 rfl rfl (vp_in_nI (by omega) (by decide)) dA_shuffle_56 (fun H locs hP hD hSS => ?_)
        have hP : va_P g.1 cl_X (xo_W g wT (upd wk ((nI (n + 1)) : Int32).toNatClampNeg x8) wn) H := hP
        have hD : va_D (mu_fr g) (xo_W g wT (upd wk ((nI (n + 1)) : Int32).toNatClampNeg x8) wn) := hD
        refine lv_aload_n hx hb dA_shuffle_57 rfl (lv_at hl 4 rfl) ?_
        refine va_get (D := g.1) (ci := 0) (v := .ref (xo_d g)) (C := "HandTables") (T := T_A) (N := 3) hx hb hts (fun w hw => wd_in (u_inA w hw)) hown hK hP 0 rfl rfl 1 (by decide) (hts _ (wd_in (gw_mem 50 rfl rfl))) (fun _ h => h) rfl dA_shuffle_58 ?_
        refine lv_iload hx hb dA_shuffle_61 (lv_at hl 1 rfl) ?_
        refine lv_iload hx hb dA_shuffle_63 (lv_at hl 0 rfl) ?_
        refine va_iast (x := x7) hx hb hK hP hD hSS 2 1 rfl rfl (by subst_vars; exact sh_in _ hn) dA_shuffle_65 (fun H locs hP hD hSS => ?_)
        have hP : va_P g.1 cl_X (xo_W g wT (upd (upd wk ((nI (n + 1)) : Int32).toNatClampNeg x8) (x6 : Int32).toNatClampNeg x7) wn) H := hP
        have hD : va_D (mu_fr g) (xo_W g wT (upd (upd wk ((nI (n + 1)) : Int32).toNatClampNeg x8) (x6 : Int32).toNatClampNeg x7) wn) := hD
        refine jv_iinc (a := (-1)) hx hb dA_shuffle_66 hl (k := 3) rfl (by decide) (by decide) (fun x9 ex9 ls hl => ?_)
        have hl : lv_has ls 6 [(3, .int x9), (5, .int x7), (4, .int x6), (2, .int x5), (0, .ref (xo_a g))] := hl
        refine lv_goto (tgt := 9) hx hb dA_shuffle_69 (by decide) ?_
        rw [nI_dec] at ex9
        subst ex9 ex8 ex7 ex6 ex5
        simp only [sh_lp, sh_x, sh_j] at K
        exact ih _ _ _ _ _ _ ls (lv_sub hl [0, 3, 4] rfl) hP hD hSS (by omega) K
  refine hloop 51 x1 T (g_sorted dk) 0 _ _ ls (by have h9 := lv_sub hl [0, 1, 2] rfl; subst ex2; exact h9) hP hD hSS (by decide) (fun H locs ls hl hP hD hSS => ?_)
  clear hloop
  exact mw_vret hx hb hr hlk dA_shuffle_72 hP hSS (by subst ex2 ex1; (try simp only []) <;> rfl)
