/-! the class's constructor -/
section MA
variable {p : Program} {l : Launch} {e : Env} {R : Room} {s : State} {m : MethodId} {args : Array Value} {below : List Frame} {meth : Method} {c : Code} {H : Heap} {locs : List Loc} {cells slots : Nat} {Q : State → Prop}
variable {cc b : ByteArray} {pc nL n d index k o : Nat} {ls : Array Slot} {rest st0 : List Value} {own C : String} {y y0 : MethodName} {b0 : ByteArray} {n0 : Nat} {ret ret0 : Option FieldType} {av : List Value} {B : State → Prop} {g : xo_E} {T : Nat → Int64} {dk : Nat → Int32} {dn : Int32} {A0 : Nat → Prop}
/-- as mw_V, where more may have changed before -/
theorem mw_VA (hM : mw_M l y b n ret d (.ref o :: av) g B (.inr (none, T, dk, dn))) (he : st0 = av.reverse ++ .ref o :: rest) (hc : cv_W own index C y b n ret k) (S : CallFix p m c cc nL s args (wd y0 b0 n0 ret0) own) (hB : ∀ U : State, U.heap = H → s.WarmedH U.vm → B U) (hBl : bl_F B) (hrc : ∃ cell : Cell, H[o]? = some cell ∧ cell.vm.isStatics = false ∧ s.vm.findClass C = some cell.cls)
    (hR : (d + 1 ≤ R.frames ∧ 8 + (n + 11) + 70 * d ≤ R.locals)) (hl : ls.size = nL) (hk : av.length = k) (hst : (rest.map fun v => v.category).sum ≤ 8) (hf : cells ≤ R.cells ∧ slots ≤ R.slots) (hdg : decode cc pc = .ok (.invokevirtual index, 3)) (hS : va_S A0 s.heap H locs) (hsub : ∀ q, mu_fr g q → A0 q)
    (kk : ∀ (H1 : Heap) (locs1 : List Loc), va_P g.1 cl_X (xo_W g T dk dn) H1 → va_S A0 s.heap H1 locs1 → W p l e R s m args below meth c H1 locs1 cells slots Q (F0 m (pc + 3) ls rest)) : W p l e R s m args below meth c H locs cells slots Q (F0 m pc ls st0) := by
  subst he
  have hr := va_runV (C := C) (b := o) (As := av) (rest := rest) (e := e) (below := below) (meth := meth) (H := H) (locs := locs) (cells := cells) (slots := slots) (g := F0 m pc ls (av.reverse ++ .ref o :: rest)) S hM (cwV k S.2.2.2.2 (cv_good hc) rfl rfl rfl hc.2.2.2.2.2 hR) ⟨bl_blind hBl, hrc, fun U hU hW => ⟨rfl, hB U hU hW⟩⟩ rfl hk hl rfl (by show 2 * 0 + _ ≤ 8; omega) hdg hf
  intro X hX Y
  obtain ⟨v, st₀, t, T', L, h0, X', hL, e1, e2, ⟨v', T1, k1, n1, hres, hv, hz, hp, hk1⟩, st⟩ := hr X hX Y
  cases hv
  cases hres
  rw [h0] at hz hk1
  obtain ⟨t2, a1, b1⟩ := kk T'.heap (locs ++ L) (by rw [e1]; exact hp) ⟨Nat.le_trans hS.1 (by rw [e1]; exact hz), fun q h1 h2 => by rw [e1, hk1 q (Nat.lt_of_lt_of_le h1 hS.1) (fun z => h2 (hsub q z))]; exact hS.2.1 q h1 h2, fun q hq => by
      rcases List.mem_append.mp hq with h | h
      · exact hS.2.2 q h
      · exact hsub _ (hL q h)⟩ T' rfl X'
  exact ⟨t2, st t2 a1, b1⟩
end MA
def in_A (h0 sz : Nat) (q : Nat) : Prop := q = h0 ∨ sz ≤ q
def in_Q (D : va_G) (h0 : Nat) : Array Value → State → Outcome → State → Prop := fun _ st o t => o = .returned none ∧ ∃ (cJ cI : ClassId) (ta td : Nat), xo_ap (D, cJ, cI, h0, ta, td) ∧ va_P D cl_X (xo_W (D, cJ, cI, h0, ta, td) (fun _ => 0) (g_sorted (fun _ => 0)) 0) t.heap ∧ va_K D cl_X [(cJ, .long), (cI, .int)] t ∧ st.heap.size ≤ ta ∧ st.heap.size ≤ td ∧ va_F (in_A h0 st.heap.size) st t
set_option maxHeartbeats 4000000 in
set_option maxRecDepth 100000 in
theorem cA_init (l : Launch) (D : va_G) (h0 sz : Nat) : Met l yA_init (wd yA_init bA_init 1 none) (rmD 2 2 59) (va_Pc [.ref h0] (fun U => U.heap.size = sz ∧ h0 < sz ∧ va_P D cl_X [(h0, .inr (0, [.null, .null, .int 0]))] U.heap ∧ va_K D cl_X [] U)) (in_Q D h0) 2 59 (in_A h0 sz) := by
  refine Met.ofW (cc := bA_init) (maxL := 1) (ret := none) (by decide) rfl ?_
  intro p e s m args below meth c s₁ BB hml hv
  obtain ⟨rfl, hsz, hlt, hP, hK⟩ := hv
  subst hsz
  have hx := BB.exec
  have hb := BB.bytes
  have hr := BB.returns
  have hlk := BB.notSynchronized
  have hin : meth.name = "<init>" := (name_of_methodNamed BB.named BB.method).1
  have hts := atoms_spec (ws := wd yA_init bA_init 1 none) BB.pre
  have hown : s.vm.findClass "HandTables" = some m.cls := findClass_of_methodNamed BB.named
  have hS9 : CallFix p m c bA_init 1 s _ (wd yA_init bA_init 1 none) "HandTables" := ⟨hx, hb, hml, hown, hts⟩
  have hD : va_D (in_A h0 s.heap.size) [(h0, .inr (0, [.null, .null, .int 0]))] := by
    refine ⟨fun i j x y hi hj _ => ?_, fun k q hk => ?_⟩
    · match i, j with
      | 0, 0 => rfl
      | _, n + 1 => cases hj
      | n + 1, 0 => cases hi
    · match k with
      | 0 => cases hk; exact Or.inl rfl
      | n + 1 => cases hk
  have hA : ∀ q : Nat, s.heap.size ≤ q → in_A h0 s.heap.size q := fun q h => Or.inr h
  have hS : va_S (in_A h0 s.heap.size) s.heap s.heap [] := va_S.rf
  have hl := lv_entry ([.ref h0]) (n := 1) (Nat.le_of_ble_eq_true rfl)
  rw [lg_entry_eq]
  generalize (lg_sl ([.ref h0]) ++ List.replicate (1 - (lg_sl ([.ref h0])).length) Slot.unset).toArray = ls at hl ⊢
  have hl : lv_has ls 1 [(0, .ref h0)] := hl
  refine lv_aload_n hx hb dA_init_0 rfl (lv_at hl 0 rfl) ?_
  refine W.objInit hx hb hown (hts _ (wd_in (gw_mem 42 rfl rfl))) (hts _ (wd_in (gw_mem 43 rfl rfl))) (hts _ (wd_in (gw_mem 44 rfl rfl))) rfl (by rw [hml]; exact hl.1) rfl dA_init_1 (Nat.le_of_ble_eq_true rfl) (Nat.le_of_ble_eq_true rfl) ?_
  refine W.eq (g2 := F0 m 4 ls []) rfl ?_
  refine lv_aload_n hx hb dA_init_4 rfl (lv_at hl 0 rfl) ?_
  refine lv_bipush (v := 7) hx hb dA_init_5 (by decide) ?_
  refine va_newa (ty := .long) (N' := 7) (a0 := (7, .inr (.inl fun _ => 0))) hx hb (hts _ (wd_in (gw_mem 59 rfl rfl))) rfl hK hP hD hS hA (fun cA => rfl) (by decide) (by decide) (by decide) (Nat.le_of_ble_eq_true rfl) (Nat.le_of_ble_eq_true rfl) dA_init_7 (fun q1 cJ H hK hP hD hS => ?_)
  have hP : va_P D cl_X [(h0, .inr (0, [.null, .null, .int 0])), (q1, .inl (cJ, 7, .inr (.inl fun _ => 0)))] H := hP
  have hD : va_D (in_A h0 s.heap.size) [(h0, .inr (0, [.null, .null, .int 0])), (q1, .inl (cJ, 7, .inr (.inl fun _ => 0)))] := hD
  refine va_putF (D := D) (ci := 0) (v := .ref q1) (ty := .array .long) (C := "HandTables") (T := T_A) (N := 3) hx hb hts (fun w hw => wd_in (u_inA w hw)) tf_A tf_A_ok n_A hown hK hP hD hS 0 rfl rfl 0 (by decide) (hts _ (wd_in (gw_mem 49 rfl rfl))) (fun _ h9 => h9) rfl hin rfl (by decide +kernel) rfl rfl (Nat.le_of_ble_eq_true rfl) dA_init_9 (fun H locs hP hD hS => ?_)
  have hP : va_P D cl_X [(h0, .inr (0, [.ref q1, .null, .int 0])), (q1, .inl (cJ, 7, .inr (.inl fun _ => 0)))] H := hP
  have hD : va_D (in_A h0 s.heap.size) [(h0, .inr (0, [.ref q1, .null, .int 0])), (q1, .inl (cJ, 7, .inr (.inl fun _ => 0)))] := hD
  refine lv_aload_n hx hb dA_init_12 rfl (lv_at hl 0 rfl) ?_
  refine lv_bipush (v := 52) hx hb dA_init_13 (by decide) ?_
  refine va_newa (ty := .int) (N' := 52) (a0 := (52, .inl fun _ => 0)) hx hb (hts _ (wd_in (gw_mem 60 rfl rfl))) rfl hK hP hD hS hA (fun cA => rfl) (by decide) (by decide) (by decide) (Nat.le_of_ble_eq_true rfl) (Nat.le_of_ble_eq_true rfl) dA_init_15 (fun q2 cI H hK hP hD hS => ?_)
  have hP : va_P D cl_X [(h0, .inr (0, [.ref q1, .null, .int 0])), (q1, .inl (cJ, 7, .inr (.inl fun _ => 0))), (q2, .inl (cI, 52, .inl fun _ => 0))] H := hP
  have hD : va_D (in_A h0 s.heap.size) [(h0, .inr (0, [.ref q1, .null, .int 0])), (q1, .inl (cJ, 7, .inr (.inl fun _ => 0))), (q2, .inl (cI, 52, .inl fun _ => 0))] := hD
  refine va_putF (D := D) (ci := 0) (v := .ref q2) (ty := .array .int) (C := "HandTables") (T := T_A) (N := 3) hx hb hts (fun w hw => wd_in (u_inA w hw)) tf_A tf_A_ok n_A hown hK hP hD hS 0 rfl rfl 1 (by decide) (hts _ (wd_in (gw_mem 50 rfl rfl))) (fun _ h9 => h9) rfl hin rfl (by decide +kernel) rfl rfl (Nat.le_of_ble_eq_true rfl) dA_init_17 (fun H locs hP hD hS => ?_)
  have hP : va_P D cl_X (xo_W (D, cJ, cI, h0, q1, q2) (fun _ => 0) (fun _ => 0) 0) H := hP
  have hD : va_D (in_A h0 s.heap.size) (xo_W (D, cJ, cI, h0, q1, q2) (fun _ => 0) (fun _ => 0) 0) := hD
  have hK : va_K D cl_X [(cJ, .long), (cI, .int)] s := hK
  have hap : xo_ap (D, cJ, cI, h0, q1, q2) := ⟨fun z => absurd (hD.1 0 1 _ _ rfl rfl z) (by decide), fun z => absurd (hD.1 0 2 _ _ rfl rfl z) (by decide), fun z => absurd (hD.1 1 2 _ _ rfl rfl z) (by decide)⟩
  have h1 : s.heap.size ≤ q1 := by
    rcases hD.2 1 _ rfl with z | z
    · exact absurd z.symm hap.1
    · exact z
  have h2 : s.heap.size ≤ q2 := by
    rcases hD.2 2 _ rfl with z | z
    · exact absurd z.symm hap.2.1
    · exact z
  refine lv_aload_n hx hb dA_init_20 rfl (lv_at hl 0 rfl) ?_
  refine mw_VA (cA_sortDeck l (D, cJ, cI, h0, q1, q2) (fun _ => 0) (fun _ => 0) 0 hap) rfl kA_A_sortDeck hS9 (fun U hU hW => ⟨by rw [hU]; exact hP, va_K.moved hW.alike hK⟩) bl_xw (va_recv (q0 := 0) (ci := 0) (q := ("HandTables", T_A, 3)) hK hP rfl rfl) ⟨Nat.le_of_ble_eq_true rfl, Nat.le_of_ble_eq_true rfl⟩ hl.1 rfl (Nat.le_of_ble_eq_true rfl) ⟨Nat.le_of_ble_eq_true rfl, Nat.le_of_ble_eq_true rfl⟩ dA_init_21 hS (fun q hq => by
    rcases hq with z | z | z
    · exact Or.inl z
    · rw [z]; exact Or.inr h1
    · rw [z]; exact Or.inr h2) (fun H locs hP hS => ?_)
  exact W.vret hx hb hr (fun t ht hW => ⟨rfl, cJ, cI, q1, q2, hap, by rw [ht]; exact hP, va_K.moved hW.alike hK, h1, h2, hS.F ht⟩) hS.2.2 dA_init_24
