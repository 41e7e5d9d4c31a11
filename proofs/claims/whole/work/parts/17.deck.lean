/-! the deck -/
def sd_lp : Nat → (Nat → Int32) → Nat → Int32
  | 0, f => f
  | n + 1, f => sd_lp n (upd f (nI (52 - (n + 1))).toNatClampNeg (nI (52 - (n + 1))))
def g_sorted (f : Nat → Int32) : Nat → Int32 := sd_lp 52 f
set_option maxHeartbeats 4000000 in
set_option maxRecDepth 100000 in
theorem cA_sortDeck (l : Launch) (g : xo_E) (T : Nat → Int64) (dk : Nat → Int32) (dn : Int32)  (hst : l.stackTraces = false) (hap : xo_ap g)  : mu_M l yA_sortDeck bA_sortDeck 2 none 7 [.ref (xo_a g)] g (xo_F g T dk dn) (.inr (none, T, g_sorted dk, 0)) := by
  refine vx_ofW (cc := bA_sortDeck) (maxL := 2) (ret := none) (by decide) rfl ?_
  intro p e s m args below meth c s₁ BB hml hout hv
  obtain ⟨rfl, hB⟩ := hv
  have hx := BB.exec
  have hb := BB.bytes
  have hr := BB.returns
  have hlk := BB.notSynchronized
  have hts := atoms_spec (ws := wd yA_sortDeck bA_sortDeck 2 none) BB.pre
  have hown : s.vm.findClass "HandTables" = some m.cls := findClass_of_methodNamed BB.named
  have hS : CallFix p m c bA_sortDeck 2 s _ (wd yA_sortDeck bA_sortDeck 2 none) "HandTables" := ⟨hx, hb, hml, hown, hts⟩
  obtain ⟨hTa, hEx, hP, hK⟩ := id hB
  have hD := xo_D T dk dn hap
  have hSS : va_S (mu_fr g) s.heap s.heap [] := va_S.rf
  obtain ⟨⟨t1, hT1⟩, ⟨t2, hT2⟩, ⟨t3, hT3⟩, ⟨t4, hT4⟩⟩ := id hTa
  have hl := lv_entry ([.ref (xo_a g)]) (n := 2) (Nat.le_of_ble_eq_true rfl)
  rw [lg_entry_eq]
  generalize (lg_sl ([.ref (xo_a g)]) ++ List.replicate (2 - (lg_sl ([.ref (xo_a g)])).length) Slot.unset).toArray = ls at hl ⊢
  have hl : lv_has ls 2 [(0, .ref (xo_a g))] := hl
  refine lv_iconst (v := 0) hx hb dA_sortDeck_0 (by decide) ?_
  refine jt_topi (fun x1 ex1 => ?_)
  refine lv_istore_n (lv' := [(1, .int x1), (0, .ref (xo_a g))]) hx hb dA_sortDeck_1 rfl hl (by decide) rfl (fun ls hl => ?_)
  have hloop : ∀ (n : Nat)  (wT : Nat → Int64) (wk : Nat → Int32) (wn : Int32) (H : Heap) (locs : List Loc) (ls : Array Slot), lv_has ls 2 [(1, .int (nI (52 - n))), (0, .ref (xo_a g))] → va_P g.1 cl_X (xo_W g wT wk wn) H → va_D (mu_fr g) (xo_W g wT wk wn) → va_S (mu_fr g) s.heap H locs → (n ≤ 52) → (∀ (H : Heap) (locs : List Loc) (ls : Array Slot), lv_has ls 2 [(0, .ref (xo_a g))] → va_P g.1 cl_X (xo_W g wT (sd_lp n wk) wn) H → va_D (mu_fr g) (xo_W g wT (sd_lp n wk) wn) → va_S (mu_fr g) s.heap H locs → W p l e (headSpec (wd yA_sortDeck bA_sortDeck 2 none) (rmD 7 1 6)).room s m ([.ref (xo_a g)]).toArray below meth c H locs 0 0 (vx_MQ below (mu_Q g (.inr (none, T, g_sorted dk, 0))) (mu_X (.inr (none, T, g_sorted dk, 0))) ([.ref (xo_a g)]).toArray s 1 6 (mu_fr g)) (F0 m 21 ls [])) → W p l e (headSpec (wd yA_sortDeck bA_sortDeck 2 none) (rmD 7 1 6)).room s m ([.ref (xo_a g)]).toArray below meth c H locs 0 0 (vx_MQ below (mu_Q g (.inr (none, T, g_sorted dk, 0))) (mu_X (.inr (none, T, g_sorted dk, 0))) ([.ref (xo_a g)]).toArray s 1 6 (mu_fr g)) (F0 m 2 ls []) := by
    intro n
    induction n with
    | zero =>
      intro  wT wk wn H locs ls hl hP hD hSS hn K
      refine lv_iload_n hx hb dA_sortDeck_2 rfl (lv_at hl 0 rfl) ?_
      refine lv_bipush (v := 52) hx hb dA_sortDeck_3 (by decide) ?_
      refine lv_icmp_ge (tgt := 21) hx hb dA_sortDeck_5 (by decide) (fun hc2 => ?_) (fun hc2 => ?_)
      · simp only [sd_lp] at K
        exact K _ _ _ (lv_sub hl [1] rfl) hP hD hSS
      · exact absurd (by decide) hc2
    | succ n ih =>
      intro  wT wk wn H locs ls hl hP hD hSS hn K
      refine lv_iload_n hx hb dA_sortDeck_2 rfl (lv_at hl 0 rfl) ?_
      refine lv_bipush (v := 52) hx hb dA_sortDeck_3 (by decide) ?_
      refine lv_icmp_ge (tgt := 21) hx hb dA_sortDeck_5 (by decide) (fun hc3 => ?_) (fun hc3 => ?_)
      · exact absurd hc3 (nI_ge (b := 52) (by omega) (by decide))
      · refine lv_aload_n hx hb dA_sortDeck_8 rfl (lv_at hl 1 rfl) ?_
        refine va_get (D := g.1) (ci := 0) (v := .ref (xo_d g)) (C := "HandTables") (T := T_A) (N := 3) hx hb hts (fun w hw => wd_in (u_inA w hw)) hown hK hP 0 rfl rfl 1 (by decide) (hts _ (wd_in (gw_mem 50 rfl rfl))) (fun _ h => h) rfl dA_sortDeck_9 ?_
        refine lv_iload_n hx hb dA_sortDeck_12 rfl (lv_at hl 0 rfl) ?_
        refine lv_iload_n hx hb dA_sortDeck_13 rfl (lv_at hl 0 rfl) ?_
        refine va_iast (x := (nI (52 - (n + 1)))) hx hb hK hP hD hSS 2 1 rfl rfl (vp_in_nI (by omega) (by decide)) dA_sortDeck_14 (fun H locs hP hD hSS => ?_)
        have hP : va_P g.1 cl_X (xo_W g wT (upd wk ((nI (52 - (n + 1))) : Int32).toNatClampNeg (nI (52 - (n + 1)))) wn) H := hP
        have hD : va_D (mu_fr g) (xo_W g wT (upd wk ((nI (52 - (n + 1))) : Int32).toNatClampNeg (nI (52 - (n + 1)))) wn) := hD
        refine jv_iinc (a := 1) hx hb dA_sortDeck_15 hl (k := 0) rfl (by decide) (by decide) (fun x4 ex4 ls hl => ?_)
        have hl : lv_has ls 2 [(1, .int x4), (0, .ref (xo_a g))] := hl
        refine lv_goto (tgt := 2) hx hb dA_sortDeck_18 (by decide) ?_
        rw [nI_up (by omega)] at ex4
        subst ex4
        simp only [sd_lp] at K
        exact ih  _ _ _ _ _ ls (lv_sub hl [0, 1] rfl) hP hD hSS (by omega) K
  refine hloop 52  T dk dn _ _ ls (by have h9 := lv_sub hl [0, 1] rfl; subst ex1; exact h9) hP hD hSS (by decide) (fun H locs ls hl hP hD hSS => ?_)
  clear hloop
  refine lv_aload_n hx hb dA_sortDeck_21 rfl (lv_at hl 0 rfl) ?_
  refine lv_iconst (v := 0) hx hb dA_sortDeck_22 (by decide) ?_
  refine va_put (D := g.1) (ci := 0) (v := .int 0) (ty := .int) (C := "HandTables") (T := T_A) (N := 3) hx hb hts (fun w hw => wd_in (u_inA w hw)) tf_A tf_A_ok n_A hown hK hP hD hSS 0 rfl rfl 2 (by decide) (hts _ (wd_in (gw_mem 51 rfl rfl))) (fun _ h => h) rfl (by decide +kernel) rfl rfl (Nat.le_of_ble_eq_true rfl) dA_sortDeck_23 (fun H locs hP hD hSS => ?_)
  have hP : va_P g.1 cl_X (xo_W g T (sd_lp 52 dk) 0) H := hP
  have hD : va_D (mu_fr g) (xo_W g T (sd_lp 52 dk) 0) := hD
  exact mu_vret hx hb hr hlk dA_sortDeck_26 hP hSS (by subst ex1; (try simp only []) <;> rfl)
