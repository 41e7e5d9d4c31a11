/-! who leads; how many boards -/
section JT
variable {p : Program} {l : Launch} {e : Env} {R : Room} {s : State} {m : MethodId} {args : Array Value} {below : List Frame} {meth : Method} {c : Code} {H : Heap} {locs : List Loc} {cells slots : Nat} {Q : State → Prop} {pc : Nat} {ls : Array Slot} {rest : List Value}
/-- the value on top gets a name (the name on the right: so 'subst' looks at nothing) -/
theorem jt_topi {x : Int32} (k : ∀ y : Int32, x = y → W p l e R s m args below meth c H locs cells slots Q (F0 m pc ls (.int y :: rest))) : W p l e R s m args below meth c H locs cells slots Q (F0 m pc ls (.int x :: rest)) := k x rfl
theorem jt_topl {x : Int64} (k : ∀ y : Int64, x = y → W p l e R s m args below meth c H locs cells slots Q (F0 m pc ls (.long y :: rest))) : W p l e R s m args below meth c H locs cells slots Q (F0 m pc ls (.long x :: rest)) := k x rfl
end JT
def ld_v (T : Nat → Int64) (b : Int64) (k : Int32) : Int32 := if T k.toNatClampNeg = 0 then -1 else f_valueOf (T k.toNatClampNeg ||| b)
def ld_g (v w : Int32) : Int32 := if v ≤ w then w else v
def ld_w (v h w k : Int32) : Int32 := if v ≤ h then (if v = -1 then w else if v = h then w ||| jli 1 k else w) else (if v = -1 then 0 else 0 ||| jli 1 k)
def ld_lp (T : Nat → Int64) (b : Int64) : Nat → Int32 → Int32 → Int32
  | 0, _, w => w
  | n + 1, h, w => ld_lp T b n (ld_g (ld_v T b (nI (6 - (n + 1)))) h) (ld_w (ld_v T b (nI (6 - (n + 1)))) h w (nI (6 - (n + 1))))
def g_lead (T : Nat → Int64) (b : Int64) : Int32 := ld_lp T b 6 (-1) 0
def cb_lp (G : Int64 → Int64 → Int32) (b : Int64) : Nat → Int32 → Int64 → Int32
  | 0, a, _ => a
  | n + 1, a, r => if r &&& jl 1 (nI (52 - (n + 1))) = 0 then cb_lp G b n a r
    else cb_lp G b n (a + G (b ||| (r &&& jl 1 (nI (52 - (n + 1))))) (r &&& ((r &&& jl 1 (nI (52 - (n + 1)))) ^^^ -1))) (r &&& ((r &&& jl 1 (nI (52 - (n + 1)))) ^^^ -1))
def g_cb (T : Nat → Int64) (k w : Int32) : Nat → Int64 → Int64 → Int32
  | 0, b, _ => if f_outcome k w (g_lead T b) = 0 then 0 else 1
  | n + 1, b, f => cb_lp (g_cb T k w n) b 52 0 f
set_option maxHeartbeats 4000000 in
set_option maxRecDepth 100000 in
theorem cA_leadersOn (l : Launch) (g : xo_E) (T : Nat → Int64) (dk : Nat → Int32) (dn : Int32) (b : Int64)  : pu_M l yA_leadersOn bA_leadersOn 7 (some .int) 5 [.ref (xo_t g), .long b] (xo_F g T dk dn) (.int (g_lead T b)) := by
  refine Met.ofW (cc := bA_leadersOn) (maxL := 7) (ret := (some .int)) (by decide) rfl ?_
  intro p e s m args below meth c s₁ BB hml hv
  obtain ⟨rfl, hB⟩ := hv
  have hx := BB.exec
  have hb := BB.bytes
  have hr := BB.returns
  have hlk := BB.notSynchronized
  have hts := atoms_spec (ws := wd yA_leadersOn bA_leadersOn 7 (some .int)) BB.pre
  have hown : s.vm.findClass "HandTables" = some m.cls := findClass_of_methodNamed BB.named
  have hS : CallFix p m c bA_leadersOn 7 s _ (wd yA_leadersOn bA_leadersOn 7 (some .int)) "HandTables" := ⟨hx, hb, hml, hown, hts⟩
  obtain ⟨hTa, hEx, hP, hK⟩ := id hB
  obtain ⟨⟨t1, hT1⟩, ⟨t2, hT2⟩, ⟨t3, hT3⟩, ⟨t4, hT4⟩⟩ := id hTa
  have hl := lv_entry ([.ref (xo_t g), .long b]) (n := 7) (Nat.le_of_ble_eq_true rfl)
  rw [lg_entry_eq]
  generalize (lg_sl ([.ref (xo_t g), .long b]) ++ List.replicate (7 - (lg_sl ([.ref (xo_t g), .long b])).length) Slot.unset).toArray = ls at hl ⊢
  have hl : lv_has ls 7 [(0, .ref (xo_t g)), (1, .long b)] := hl
  refine lv_iconst (v := (-1)) hx hb dA_leadersOn_0 (by decide) ?_
  refine jt_topi (fun x1 ex1 => ?_)
  refine lv_istore_n (lv' := [(3, .int x1), (0, .ref (xo_t g)), (1, .long b)]) hx hb dA_leadersOn_1 rfl hl (by decide) rfl (fun ls hl => ?_)
  refine lv_iconst (v := 0) hx hb dA_leadersOn_2 (by decide) ?_
  refine jt_topi (fun x2 ex2 => ?_)
  refine lv_istore (lv' := [(4, .int x2), (3, .int x1), (0, .ref (xo_t g)), (1, .long b)]) hx hb dA_leadersOn_3 hl (by decide) rfl (fun ls hl => ?_)
  refine lv_iconst (v := 0) hx hb dA_leadersOn_5 (by decide) ?_
  refine jt_topi (fun x3 ex3 => ?_)
  refine lv_istore (lv' := [(5, .int x3), (4, .int x2), (3, .int x1), (0, .ref (xo_t g)), (1, .long b)]) hx hb dA_leadersOn_6 hl (by decide) rfl (fun ls hl => ?_)
  have hloop : ∀ (n : Nat) (h : Int32) (w : Int32) (ls : Array Slot), lv_has ls 7 [(5, .int (nI (6 - n))), (3, .int h), (4, .int w), (0, .ref (xo_t g)), (1, .long b)] → (n ≤ 6) → (∀ ls : Array Slot, lv_has ls 7 [(4, .int (ld_lp T b n h w))] → W p l e (headSpec (wd yA_leadersOn bA_leadersOn 7 (some .int)) (rmD 5 0 0)).room s m ([.ref (xo_t g), .long b]).toArray below meth c s.heap [] 0 0 (MQ below (pu_Q (.int (g_lead T b))) ([.ref (xo_t g), .long b]).toArray s 0 0 (fun _ => False)) (F0 m 78 ls [])) → W p l e (headSpec (wd yA_leadersOn bA_leadersOn 7 (some .int)) (rmD 5 0 0)).room s m ([.ref (xo_t g), .long b]).toArray below meth c s.heap [] 0 0 (MQ below (pu_Q (.int (g_lead T b))) ([.ref (xo_t g), .long b]).toArray s 0 0 (fun _ => False)) (F0 m 8 ls []) := by
    intro n
    induction n with
    | zero =>
      intro h w ls hl hn K
      refine lv_iload hx hb dA_leadersOn_8 (lv_at hl 0 rfl) ?_
      refine lv_bipush (v := 6) hx hb dA_leadersOn_10 (by decide) ?_
      refine lv_icmp_ge (tgt := 78) hx hb dA_leadersOn_12 (by decide) (fun hc4 => ?_) (fun hc4 => ?_)
      · simp only [ld_lp, ld_v, ld_g, ld_w, if_true] at K
        exact K _ (lv_sub hl [2] rfl)
      · exact absurd (by decide) hc4
    | succ n ih =>
      intro h w ls hl hn K
      refine lv_iload hx hb dA_leadersOn_8 (lv_at hl 0 rfl) ?_
      refine lv_bipush (v := 6) hx hb dA_leadersOn_10 (by decide) ?_
      refine lv_icmp_ge (tgt := 78) hx hb dA_leadersOn_12 (by decide) (fun hc5 => ?_) (fun hc5 => ?_)
      · exact absurd hc5 (nI_ge (b := 6) (by omega) (by decide))
      · refine lv_aload_n hx hb dA_leadersOn_15 rfl (lv_at hl 3 rfl) ?_
        refine lv_iload hx hb dA_leadersOn_16 (lv_at hl 0 rfl) ?_
        refine va_lald hx hb hK hP 1 0 rfl rfl (vp_in_nI (by omega) (by decide)) dA_leadersOn_18 ?_
        refine lv_lconst (v := 0) hx hb dA_leadersOn_19 (by decide) ?_
        refine jv_lcne (tgt := 28) hx hb dA_leadersOn_20 dA_leadersOn_21 (by decide) (fun hc6 => ?_) (fun hc6 => ?_)
        · refine lv_aload_n hx hb dA_leadersOn_28 rfl (lv_at hl 3 rfl) ?_
          refine lv_iload hx hb dA_leadersOn_29 (lv_at hl 0 rfl) ?_
          refine va_lald hx hb hK hP 1 0 rfl rfl (vp_in_nI (by omega) (by decide)) dA_leadersOn_31 ?_
          refine lv_lload_n hx hb dA_leadersOn_32 rfl (lv_at hl 4 rfl) ?_
          refine lv_lor hx hb dA_leadersOn_33 ?_
          refine pu_S (cA_valueOf l _) rfl kA_A_valueOf hS bl_ta hTa rfl ⟨Nat.le_of_ble_eq_true rfl, Nat.le_of_ble_eq_true rfl⟩ hl.1 rfl (Nat.le_of_ble_eq_true rfl) ⟨Nat.zero_le _, Nat.zero_le _⟩ dA_leadersOn_34 ?_
          refine jt_topi (fun x7 ex7 => ?_)
          refine lv_istore (lv' := [(6, .int x7), (5, .int (nI (6 - (n + 1)))), (3, .int h), (4, .int w), (0, .ref (xo_t g)), (1, .long b)]) hx hb dA_leadersOn_37 hl (by decide) rfl (fun ls hl => ?_)
          refine lv_iload hx hb dA_leadersOn_39 (lv_at hl 0 rfl) ?_
          refine lv_iload_n hx hb dA_leadersOn_41 rfl (lv_at hl 2 rfl) ?_
          refine lv_icmp_le (tgt := 51) hx hb dA_leadersOn_42 (by decide) (fun hc8 => ?_) (fun hc8 => ?_)
          · refine lv_iload hx hb dA_leadersOn_51 (lv_at hl 0 rfl) ?_
            refine lv_iconst (v := (-1)) hx hb dA_leadersOn_53 (by decide) ?_
            refine lv_icmp_eq (tgt := 72) hx hb dA_leadersOn_54 (by decide) (fun hc9 => ?_) (fun hc9 => ?_)
            · refine jv_iinc (a := 1) hx hb dA_leadersOn_72 hl (k := 1) rfl (by decide) (by decide) (fun x10 ex10 ls hl => ?_)
              have hl : lv_has ls 7 [(5, .int x10), (6, .int x7), (3, .int h), (4, .int w), (0, .ref (xo_t g)), (1, .long b)] := hl
              refine lv_goto (tgt := 8) hx hb dA_leadersOn_75 (by decide) ?_
              rw [nI_up (by omega)] at ex10
              subst ex10 ex7
              simp only [ld_lp, ld_v, ld_g, ld_w, if_true, if_neg hc6, if_pos hc8, if_pos hc9] at K
              exact ih _ _ ls (lv_sub hl [0, 2, 3, 4, 5] rfl) (by omega) K
            · refine lv_iload hx hb dA_leadersOn_57 (lv_at hl 0 rfl) ?_
              refine lv_iload_n hx hb dA_leadersOn_59 rfl (lv_at hl 2 rfl) ?_
              refine lv_icmp_ne (tgt := 72) hx hb dA_leadersOn_60 (by decide) (fun hc11 => ?_) (fun hc11 => ?_)
              · refine jv_iinc (a := 1) hx hb dA_leadersOn_72 hl (k := 1) rfl (by decide) (by decide) (fun x12 ex12 ls hl => ?_)
                have hl : lv_has ls 7 [(5, .int x12), (6, .int x7), (3, .int h), (4, .int w), (0, .ref (xo_t g)), (1, .long b)] := hl
                refine lv_goto (tgt := 8) hx hb dA_leadersOn_75 (by decide) ?_
                rw [nI_up (by omega)] at ex12
                subst ex12 ex7
                simp only [ld_lp, ld_v, ld_g, ld_w, if_true, if_neg hc6, if_pos hc8, if_neg hc9, if_neg hc11] at K
                exact ih _ _ ls (lv_sub hl [0, 2, 3, 4, 5] rfl) (by omega) K
              · refine lv_iload hx hb dA_leadersOn_63 (lv_at hl 3 rfl) ?_
                refine lv_iconst (v := 1) hx hb dA_leadersOn_65 (by decide) ?_
                refine lv_iload hx hb dA_leadersOn_66 (lv_at hl 1 rfl) ?_
                refine jv_ishl hx hb dA_leadersOn_68 ?_
                refine lv_ior hx hb dA_leadersOn_69 ?_
                refine jt_topi (fun x13 ex13 => ?_)
                refine lv_istore (lv' := [(4, .int x13), (6, .int x7), (5, .int (nI (6 - (n + 1)))), (3, .int h), (0, .ref (xo_t g)), (1, .long b)]) hx hb dA_leadersOn_70 hl (by decide) rfl (fun ls hl => ?_)
                refine jv_iinc (a := 1) hx hb dA_leadersOn_72 hl (k := 2) rfl (by decide) (by decide) (fun x14 ex14 ls hl => ?_)
                have hl : lv_has ls 7 [(5, .int x14), (4, .int x13), (6, .int x7), (3, .int h), (0, .ref (xo_t g)), (1, .long b)] := hl
                refine lv_goto (tgt := 8) hx hb dA_leadersOn_75 (by decide) ?_
                rw [nI_up (by omega)] at ex14
                subst ex14 ex13 ex7
                simp only [ld_lp, ld_v, ld_g, ld_w, if_true, if_neg hc6, if_pos hc8, if_neg hc9, if_pos hc11] at K
                exact ih _ _ ls (lv_sub hl [0, 3, 1, 4, 5] rfl) (by omega) K
          · refine lv_iload hx hb dA_leadersOn_45 (lv_at hl 0 rfl) ?_
            refine jt_topi (fun x15 ex15 => ?_)
            refine lv_istore_n (lv' := [(3, .int x15), (6, .int x7), (5, .int (nI (6 - (n + 1)))), (4, .int w), (0, .ref (xo_t g)), (1, .long b)]) hx hb dA_leadersOn_47 rfl hl (by decide) rfl (fun ls hl => ?_)
            refine lv_iconst (v := 0) hx hb dA_leadersOn_48 (by decide) ?_
            refine jt_topi (fun x16 ex16 => ?_)
            refine lv_istore (lv' := [(4, .int x16), (3, .int x15), (6, .int x7), (5, .int (nI (6 - (n + 1)))), (0, .ref (xo_t g)), (1, .long b)]) hx hb dA_leadersOn_49 hl (by decide) rfl (fun ls hl => ?_)
            refine lv_iload hx hb dA_leadersOn_51 (lv_at hl 2 rfl) ?_
            refine lv_iconst (v := (-1)) hx hb dA_leadersOn_53 (by decide) ?_
            refine lv_icmp_eq (tgt := 72) hx hb dA_leadersOn_54 (by decide) (fun hc17 => ?_) (fun hc17 => ?_)
            · refine jv_iinc (a := 1) hx hb dA_leadersOn_72 hl (k := 3) rfl (by decide) (by decide) (fun x18 ex18 ls hl => ?_)
              have hl : lv_has ls 7 [(5, .int x18), (4, .int x16), (3, .int x15), (6, .int x7), (0, .ref (xo_t g)), (1, .long b)] := hl
              refine lv_goto (tgt := 8) hx hb dA_leadersOn_75 (by decide) ?_
              rw [nI_up (by omega)] at ex18
              subst ex18 ex16 ex15 ex7
              simp only [ld_lp, ld_v, ld_g, ld_w, if_true, if_neg hc6, if_neg hc8, if_pos hc17] at K
              exact ih _ _ ls (lv_sub hl [0, 2, 1, 4, 5] rfl) (by omega) K
            · refine lv_iload hx hb dA_leadersOn_57 (lv_at hl 2 rfl) ?_
              refine lv_iload_n hx hb dA_leadersOn_59 rfl (lv_at hl 1 rfl) ?_
              refine lv_icmp_ne (tgt := 72) hx hb dA_leadersOn_60 (by decide) (fun hc19 => ?_) (fun hc19 => ?_)
              · exact absurd (by subst_vars; rfl) hc19
              · refine lv_iload hx hb dA_leadersOn_63 (lv_at hl 0 rfl) ?_
                refine lv_iconst (v := 1) hx hb dA_leadersOn_65 (by decide) ?_
                refine lv_iload hx hb dA_leadersOn_66 (lv_at hl 3 rfl) ?_
                refine jv_ishl hx hb dA_leadersOn_68 ?_
                refine lv_ior hx hb dA_leadersOn_69 ?_
                refine jt_topi (fun x20 ex20 => ?_)
                refine lv_istore (lv' := [(4, .int x20), (3, .int x15), (6, .int x7), (5, .int (nI (6 - (n + 1)))), (0, .ref (xo_t g)), (1, .long b)]) hx hb dA_leadersOn_70 hl (by decide) rfl (fun ls hl => ?_)
                refine jv_iinc (a := 1) hx hb dA_leadersOn_72 hl (k := 3) rfl (by decide) (by decide) (fun x21 ex21 ls hl => ?_)
                have hl : lv_has ls 7 [(5, .int x21), (4, .int x20), (3, .int x15), (6, .int x7), (0, .ref (xo_t g)), (1, .long b)] := hl
                refine lv_goto (tgt := 8) hx hb dA_leadersOn_75 (by decide) ?_
                rw [nI_up (by omega)] at ex21
                subst ex21 ex20 ex16 ex15 ex7
                simp only [ld_lp, ld_v, ld_g, ld_w, if_true, if_neg hc6, if_neg hc8, if_neg hc17] at K
                exact ih _ _ ls (lv_sub hl [0, 2, 1, 4, 5] rfl) (by omega) K
        · refine lv_iconst (v := (-1)) hx hb dA_leadersOn_24 (by decide) ?_
          refine lv_goto (tgt := 37) hx hb dA_leadersOn_25 (by decide) ?_
          refine jt_topi (fun x22 ex22 => ?_)
          refine lv_istore (lv' := [(6, .int x22), (5, .int (nI (6 - (n + 1)))), (3, .int h), (4, .int w), (0, .ref (xo_t g)), (1, .long b)]) hx hb dA_leadersOn_37 hl (by decide) rfl (fun ls hl => ?_)
          refine lv_iload hx hb dA_leadersOn_39 (lv_at hl 0 rfl) ?_
          refine lv_iload_n hx hb dA_leadersOn_41 rfl (lv_at hl 2 rfl) ?_
          refine lv_icmp_le (tgt := 51) hx hb dA_leadersOn_42 (by decide) (fun hc23 => ?_) (fun hc23 => ?_)
          · refine lv_iload hx hb dA_leadersOn_51 (lv_at hl 0 rfl) ?_
            refine lv_iconst (v := (-1)) hx hb dA_leadersOn_53 (by decide) ?_
            refine lv_icmp_eq (tgt := 72) hx hb dA_leadersOn_54 (by decide) (fun hc24 => ?_) (fun hc24 => ?_)
            · refine jv_iinc (a := 1) hx hb dA_leadersOn_72 hl (k := 1) rfl (by decide) (by decide) (fun x25 ex25 ls hl => ?_)
              have hl : lv_has ls 7 [(5, .int x25), (6, .int x22), (3, .int h), (4, .int w), (0, .ref (xo_t g)), (1, .long b)] := hl
              refine lv_goto (tgt := 8) hx hb dA_leadersOn_75 (by decide) ?_
              rw [nI_up (by omega)] at ex25
              subst ex25 ex22
              simp only [ld_lp, ld_v, ld_g, ld_w, if_true, if_pos hc6, if_pos hc23] at K
              exact ih _ _ ls (lv_sub hl [0, 2, 3, 4, 5] rfl) (by omega) K
            · exact absurd ex22.symm hc24
          · refine lv_iload hx hb dA_leadersOn_45 (lv_at hl 0 rfl) ?_
            refine jt_topi (fun x26 ex26 => ?_)
            refine lv_istore_n (lv' := [(3, .int x26), (6, .int x22), (5, .int (nI (6 - (n + 1)))), (4, .int w), (0, .ref (xo_t g)), (1, .long b)]) hx hb dA_leadersOn_47 rfl hl (by decide) rfl (fun ls hl => ?_)
            refine lv_iconst (v := 0) hx hb dA_leadersOn_48 (by decide) ?_
            refine jt_topi (fun x27 ex27 => ?_)
            refine lv_istore (lv' := [(4, .int x27), (3, .int x26), (6, .int x22), (5, .int (nI (6 - (n + 1)))), (0, .ref (xo_t g)), (1, .long b)]) hx hb dA_leadersOn_49 hl (by decide) rfl (fun ls hl => ?_)
            refine lv_iload hx hb dA_leadersOn_51 (lv_at hl 2 rfl) ?_
            refine lv_iconst (v := (-1)) hx hb dA_leadersOn_53 (by decide) ?_
            refine lv_icmp_eq (tgt := 72) hx hb dA_leadersOn_54 (by decide) (fun hc28 => ?_) (fun hc28 => ?_)
            · refine jv_iinc (a := 1) hx hb dA_leadersOn_72 hl (k := 3) rfl (by decide) (by decide) (fun x29 ex29 ls hl => ?_)
              have hl : lv_has ls 7 [(5, .int x29), (4, .int x27), (3, .int x26), (6, .int x22), (0, .ref (xo_t g)), (1, .long b)] := hl
              refine lv_goto (tgt := 8) hx hb dA_leadersOn_75 (by decide) ?_
              rw [nI_up (by omega)] at ex29
              subst ex29 ex27 ex26 ex22
              simp only [ld_lp, ld_v, ld_g, ld_w, if_true, if_pos hc6, if_neg hc23] at K
              exact ih _ _ ls (lv_sub hl [0, 2, 1, 4, 5] rfl) (by omega) K
            · exact absurd ex22.symm hc28
  refine hloop 6 x1 x2 ls (by have h9 := lv_sub hl [0, 2, 1, 3, 4] rfl; subst ex3; exact h9) (by decide) (fun ls hl => ?_)
  clear hloop
  obtain ⟨y30, ey30⟩ : ∃ z, (ld_lp T b 6 x1 x2) = z := ⟨_, rfl⟩
  rw [ey30] at hl
  refine lv_iload hx hb dA_leadersOn_78 (lv_at hl 0 rfl) ?_
  exact pu_iret hx hb hr hlk dA_leadersOn_80 (by subst ey30 ex3 ex2 ex1; rfl)
