/-! places of ranks -/
theorem ch_in {j k : Nat} (hj : j ≤ 12) (hk1 : 1 ≤ k) (hk : k ≤ 5) : vp_in ((nI k - 1) * 13 + nI j) l_CHOOSE.length := by
  have h : ∀ j, j < 13 → ∀ k, k < 6 → 1 ≤ k → ¬ ((nI k - 1) * 13 + nI j < 0 ∨ 65 ≤ ((nI k - 1) * 13 + nI j).toNatClampNeg) := by decide +kernel
  exact h j (by omega) k (by omega) hk1
theorem nI_dk {k : Nat} (h : ¬ nI k < 1) (hk : k < 2 ^ 31) : 1 ≤ k := by
  rcases Nat.eq_zero_or_pos k with e | e
  · subst e
    exact absurd (by decide) h
  · exact e
theorem nI_d1 {k : Nat} (h : 1 ≤ k) : nI k + (-1) = nI (k - 1) := by
  obtain ⟨j, rfl⟩ : ∃ j, k = j + 1 := ⟨k - 1, by omega⟩
  rw [nI_dec]; rfl
def ra_lp : Nat → Int64 → Int32 → Nat → Int64
  | 0, r, _, _ => r
  | n + 1, r, q, k => if nI k < 1 then r else if q < f_choose (nI n) (nI k) then ra_lp n r q k else ra_lp n (r ||| jl 1 (4 * nI n)) (q - f_choose (nI n) (nI k)) (k - 1)
def f_ranksAt (q : Int32) (k : Nat) : Int64 := ra_lp 13 0 q k
def po_lp : Nat → Int32 → Int64 → Int32
  | 0, a, _ => a
  | n + 1, a, r => if r = 0 then a else po_lp n (a + f_choose (f_highest r) (nI (n + 1))) (r &&& (jl 1 (4 * f_highest r) ^^^ -1))
def f_placeOf (r : Int64) (k : Nat) : Int32 := po_lp k 0 r
def pb_lp (q : Int32) : Nat → Int32 → Int32
  | 0, a => a
  | n + 1, a => if q ≤ l_STRP.getD (nI (10 - (n + 1))).toNatClampNeg 0 then pb_lp q n a else pb_lp q n (a + 1)
def f_pbs (r : Int64) : Int32 := f_placeOf r 5 - pb_lp (f_placeOf r 5) 10 0
def rb_lp : Nat → Int32 → Int32
  | 0, a => a
  | n + 1, a => if a < l_STRP.getD (nI (10 - (n + 1))).toNatClampNeg 0 then rb_lp n a else rb_lp n (a + 1)
def f_rbs (q : Int32) : Int64 := f_ranksAt (rb_lp 10 q) 5
set_option maxHeartbeats 4000000 in
set_option maxRecDepth 100000 in
theorem cA_ranksAt (l : Launch) (q : Int32) (k : Nat) (hk : k ≤ 5) : pu_M l yA_ranksAt bA_ranksAt 8 (some .long) 1 [.int q, .int (nI k)] ta_F (.long (f_ranksAt q k)) := by
  refine Met.ofW (cc := bA_ranksAt) (maxL := 8) (ret := (some .long)) (by decide) rfl ?_
  intro p e s m args below meth c s₁ BB hml hv
  obtain ⟨rfl, hB⟩ := hv
  have hx := BB.exec
  have hb := BB.bytes
  have hr := BB.returns
  have hlk := BB.notSynchronized
  have hts := atoms_spec (ws := wd yA_ranksAt bA_ranksAt 8 (some .long)) BB.pre
  have hown : s.vm.findClass "HandTables" = some m.cls := findClass_of_methodNamed BB.named
  have hS : CallFix p m c bA_ranksAt 8 s _ (wd yA_ranksAt bA_ranksAt 8 (some .long)) "HandTables" := ⟨hx, hb, hml, hown, hts⟩
  obtain ⟨⟨t1, hT1⟩, ⟨t2, hT2⟩, ⟨t3, hT3⟩, ⟨t4, hT4⟩⟩ := id hB
  have hl := lv_entry ([.int q, .int (nI k)]) (n := 8) (Nat.le_of_ble_eq_true rfl)
  rw [lg_entry_eq]
  generalize (lg_sl ([.int q, .int (nI k)]) ++ List.replicate (8 - (lg_sl ([.int q, .int (nI k)])).length) Slot.unset).toArray = ls at hl ⊢
  have hl : lv_has ls 8 [(0, .int q), (1, .int (nI k))] := hl
  refine lv_lconst (v := 0) hx hb dA_ranksAt_0 (by decide) ?_
  refine lv_topl (fun x1 ex1 => ?_)
  refine lv_lstore_n (lv' := [(2, .long x1), (0, .int q), (1, .int (nI k))]) hx hb dA_ranksAt_1 rfl hl (by decide) rfl (fun ls hl => ?_)
  refine lv_iload_n hx hb dA_ranksAt_2 rfl (lv_at hl 1 rfl) ?_
  refine lv_topi (fun x2 ex2 => ?_)
  refine lv_istore (lv' := [(4, .int x2), (2, .long x1), (0, .int q), (1, .int (nI k))]) hx hb dA_ranksAt_3 hl (by decide) rfl (fun ls hl => ?_)
  refine lv_iload_n hx hb dA_ranksAt_5 rfl (lv_at hl 3 rfl) ?_
  refine lv_topi (fun x3 ex3 => ?_)
  refine lv_istore (lv' := [(5, .int x3), (4, .int x2), (2, .long x1), (0, .int q), (1, .int (nI k))]) hx hb dA_ranksAt_6 hl (by decide) rfl (fun ls hl => ?_)
  refine lv_bipush (v := 12) hx hb dA_ranksAt_8 (by decide) ?_
  refine lv_topi (fun x4 ex4 => ?_)
  refine lv_istore (lv' := [(6, .int x4), (5, .int x3), (4, .int x2), (2, .long x1), (0, .int q), (1, .int (nI k))]) hx hb dA_ranksAt_10 hl (by decide) rfl (fun ls hl => ?_)
  have hloop : ∀ (n : Nat) (r : Int64) (g : Int32) (j : Nat) (ls : Array Slot), lv_has ls 8 [(6, .int (nI n + (-1))), (2, .long r), (4, .int g), (5, .int (nI j))] → (n ≤ 13) → (j ≤ 5) → (∀ ls : Array Slot, lv_has ls 8 [(2, .long (ra_lp n r g j))] → W p l e (headSpec (wd yA_ranksAt bA_ranksAt 8 (some .long)) (rmD 1 0 0)).room s m ([.int q, .int (nI k)]).toArray below meth c s.heap [] 0 0 (MQ below (pu_Q (.long (f_ranksAt q k))) ([.int q, .int (nI k)]).toArray s 0 0 (fun _ => False)) (F0 m 64 ls [])) → W p l e (headSpec (wd yA_ranksAt bA_ranksAt 8 (some .long)) (rmD 1 0 0)).room s m ([.int q, .int (nI k)]).toArray below meth c s.heap [] 0 0 (MQ below (pu_Q (.long (f_ranksAt q k))) ([.int q, .int (nI k)]).toArray s 0 0 (fun _ => False)) (F0 m 12 ls []) := by
    intro n
    induction n with
    | zero =>
      intro r g j ls hl hn hj K
      refine lv_iload hx hb dA_ranksAt_12 (lv_at hl 0 rfl) ?_
      refine lv_if_lt (tgt := 64) hx hb dA_ranksAt_14 (by decide) (fun hc5 => ?_) (fun hc5 => ?_)
      · simp only [ra_lp] at K
        exact K _ (lv_sub hl [1] rfl)
      · exact absurd (by decide) hc5
    | succ n ih =>
      intro r g j ls hl hn hj K
      have hl : lv_has ls 8 [(6, .int (nI n)), (2, .long r), (4, .int g), (5, .int (nI j))] := by rw [nI_dec] at hl; exact hl
      refine lv_iload hx hb dA_ranksAt_12 (lv_at hl 0 rfl) ?_
      refine lv_if_lt (tgt := 64) hx hb dA_ranksAt_14 (by decide) (fun hc6 => ?_) (fun hc6 => ?_)
      · exact absurd hc6 (nI_pos (by omega))
      · refine lv_iload hx hb dA_ranksAt_17 (lv_at hl 3 rfl) ?_
        refine lv_iconst (v := 1) hx hb dA_ranksAt_19 (by decide) ?_
        refine lv_icmp_lt (tgt := 64) hx hb dA_ranksAt_20 (by decide) (fun hc7 => ?_) (fun hc7 => ?_)
        · simp only [ra_lp, if_pos hc7] at K
          exact K _ (lv_sub hl [1] rfl)
        · refine lv_iload hx hb dA_ranksAt_23 (lv_at hl 0 rfl) ?_
          refine lv_iload hx hb dA_ranksAt_25 (lv_at hl 3 rfl) ?_
          refine pu_S (cA_choose l _ _ (ch_in (by omega) (nI_dk (by assumption) (by omega)) hj)) rfl kA_A_choose hS bl_ta hB rfl ⟨Nat.le_of_ble_eq_true rfl, Nat.le_of_ble_eq_true rfl⟩ hl.1 rfl (Nat.le_of_ble_eq_true rfl) ⟨Nat.zero_le _, Nat.zero_le _⟩ dA_ranksAt_27 ?_
          refine lv_topi (fun x8 ex8 => ?_)
          refine lv_istore (lv' := [(7, .int x8), (6, .int (nI n)), (2, .long r), (4, .int g), (5, .int (nI j))]) hx hb dA_ranksAt_30 hl (by decide) rfl (fun ls hl => ?_)
          refine lv_iload hx hb dA_ranksAt_32 (lv_at hl 0 rfl) ?_
          refine lv_iload hx hb dA_ranksAt_34 (lv_at hl 3 rfl) ?_
          refine lv_icmp_gt (tgt := 58) hx hb dA_ranksAt_36 (by decide) (fun hc9 => ?_) (fun hc9 => ?_)
          · refine jv_iinc (a := (-1)) hx hb dA_ranksAt_58 hl (k := 1) rfl (by decide) (by decide) (fun x10 ex10 ls hl => ?_)
            have hl : lv_has ls 8 [(6, .int x10), (7, .int x8), (2, .long r), (4, .int g), (5, .int (nI j))] := hl
            refine lv_goto (tgt := 12) hx hb dA_ranksAt_61 (by decide) ?_
            subst ex10 ex8
            simp only [ra_lp, if_neg hc7, if_pos hc9] at K
            exact ih _ _ _ ls (lv_sub hl [0, 2, 3, 4] rfl) (by omega) (by omega) K
          · refine lv_lload_n hx hb dA_ranksAt_39 rfl (lv_at hl 2 rfl) ?_
            refine lv_lconst (v := 1) hx hb dA_ranksAt_40 (by decide) ?_
            refine lv_iconst (v := 4) hx hb dA_ranksAt_41 (by decide) ?_
            refine lv_iload hx hb dA_ranksAt_42 (lv_at hl 1 rfl) ?_
            refine lv_imul hx hb dA_ranksAt_44 ?_
            refine jv_lshl hx hb dA_ranksAt_45 ?_
            refine lv_lor hx hb dA_ranksAt_46 ?_
            refine lv_topl (fun x11 ex11 => ?_)
            refine lv_lstore_n (lv' := [(2, .long x11), (7, .int x8), (6, .int (nI n)), (4, .int g), (5, .int (nI j))]) hx hb dA_ranksAt_47 rfl hl (by decide) rfl (fun ls hl => ?_)
            refine lv_iload hx hb dA_ranksAt_48 (lv_at hl 3 rfl) ?_
            refine lv_iload hx hb dA_ranksAt_50 (lv_at hl 1 rfl) ?_
            refine lv_isub hx hb dA_ranksAt_52 ?_
            refine lv_topi (fun x12 ex12 => ?_)
            refine lv_istore (lv' := [(4, .int x12), (2, .long x11), (7, .int x8), (6, .int (nI n)), (5, .int (nI j))]) hx hb dA_ranksAt_53 hl (by decide) rfl (fun ls hl => ?_)
            refine jv_iinc (a := (-1)) hx hb dA_ranksAt_55 hl (k := 4) rfl (by decide) (by decide) (fun x13 ex13 ls hl => ?_)
            have hl : lv_has ls 8 [(5, .int x13), (4, .int x12), (2, .long x11), (7, .int x8), (6, .int (nI n))] := hl
            refine jv_iinc (a := (-1)) hx hb dA_ranksAt_58 hl (k := 4) rfl (by decide) (by decide) (fun x14 ex14 ls hl => ?_)
            have hl : lv_has ls 8 [(6, .int x14), (5, .int x13), (4, .int x12), (2, .long x11), (7, .int x8)] := hl
            refine lv_goto (tgt := 12) hx hb dA_ranksAt_61 (by decide) ?_
            rw [nI_d1 (nI_dk hc7 (by omega))] at ex13
            subst ex14 ex13 ex12 ex11 ex8
            simp only [ra_lp, if_neg hc7, if_neg hc9] at K
            exact ih _ _ _ ls (lv_sub hl [0, 3, 2, 1] rfl) (by omega) (by omega) K
  refine hloop 13 x1 x2 k ls (by have h9 := lv_sub hl [0, 3, 2, 1] rfl; subst ex4; subst ex3; exact h9) (by decide) hk (fun ls hl => ?_)
  clear hloop
  obtain ⟨y15, ey15⟩ : ∃ z, z = (ra_lp 13 x1 x2 k) := ⟨_, rfl⟩
  rw [← ey15] at hl
  refine lv_lload_n hx hb dA_ranksAt_64 rfl (lv_at hl 0 rfl) ?_
  exact pu_lret hx hb hr hlk dA_ranksAt_65 (by subst ey15 ex4 ex3 ex2 ex1; rfl)
set_option maxHeartbeats 4000000 in
set_option maxRecDepth 100000 in
theorem cA_placeOf (l : Launch) (r : Int64) (k : Nat) (hk : k ≤ 5) (hr0 : rk r) : pu_M l yA_placeOf bA_placeOf 8 (some .int) 2 [.long r, .int (nI k)] ta_F (.int (f_placeOf r k)) := by
  refine Met.ofW (cc := bA_placeOf) (maxL := 8) (ret := (some .int)) (by decide) rfl ?_
  intro p e s m args below meth c s₁ BB hml hv
  obtain ⟨rfl, hB⟩ := hv
  have hx := BB.exec
  have hb := BB.bytes
  have hr := BB.returns
  have hlk := BB.notSynchronized
  have hts := atoms_spec (ws := wd yA_placeOf bA_placeOf 8 (some .int)) BB.pre
  have hown : s.vm.findClass "HandTables" = some m.cls := findClass_of_methodNamed BB.named
  have hS : CallFix p m c bA_placeOf 8 s _ (wd yA_placeOf bA_placeOf 8 (some .int)) "HandTables" := ⟨hx, hb, hml, hown, hts⟩
  obtain ⟨⟨t1, hT1⟩, ⟨t2, hT2⟩, ⟨t3, hT3⟩, ⟨t4, hT4⟩⟩ := id hB
  have hl := lv_entry ([.long r, .int (nI k)]) (n := 8) (Nat.le_of_ble_eq_true rfl)
  rw [lg_entry_eq]
  generalize (lg_sl ([.long r, .int (nI k)]) ++ List.replicate (8 - (lg_sl ([.long r, .int (nI k)])).length) Slot.unset).toArray = ls at hl ⊢
  have hl : lv_has ls 8 [(0, .long r), (2, .int (nI k))] := hl
  refine lv_iconst (v := 0) hx hb dA_placeOf_0 (by decide) ?_
  refine lv_topi (fun x1 ex1 => ?_)
  refine lv_istore_n (lv' := [(3, .int x1), (0, .long r), (2, .int (nI k))]) hx hb dA_placeOf_1 rfl hl (by decide) rfl (fun ls hl => ?_)
  refine lv_lload_n hx hb dA_placeOf_2 rfl (lv_at hl 1 rfl) ?_
  refine lv_topl (fun x2 ex2 => ?_)
  refine lv_lstore (lv' := [(4, .long x2), (3, .int x1), (0, .long r), (2, .int (nI k))]) hx hb dA_placeOf_3 hl (by decide) rfl (fun ls hl => ?_)
  refine lv_iload_n hx hb dA_placeOf_5 rfl (lv_at hl 3 rfl) ?_
  refine lv_topi (fun x3 ex3 => ?_)
  refine lv_istore (lv' := [(6, .int x3), (4, .long x2), (3, .int x1), (0, .long r), (2, .int (nI k))]) hx hb dA_placeOf_6 hl (by decide) rfl (fun ls hl => ?_)
  have hloop : ∀ (n : Nat) (a : Int32) (g : Int64) (ls : Array Slot), lv_has ls 8 [(6, .int (nI n)), (3, .int a), (4, .long g)] → (n ≤ 5) → (rk g) → (∀ ls : Array Slot, lv_has ls 8 [(3, .int (po_lp n a g))] → W p l e (headSpec (wd yA_placeOf bA_placeOf 8 (some .int)) (rmD 2 0 0)).room s m ([.long r, .int (nI k)]).toArray below meth c s.heap [] 0 0 (MQ below (pu_Q (.int (f_placeOf r k))) ([.long r, .int (nI k)]).toArray s 0 0 (fun _ => False)) (F0 m 59 ls [])) → W p l e (headSpec (wd yA_placeOf bA_placeOf 8 (some .int)) (rmD 2 0 0)).room s m ([.long r, .int (nI k)]).toArray below meth c s.heap [] 0 0 (MQ below (pu_Q (.int (f_placeOf r k))) ([.long r, .int (nI k)]).toArray s 0 0 (fun _ => False)) (F0 m 8 ls []) := by
    intro n
    induction n with
    | zero =>
      intro a g ls hl hn hg K
      refine lv_iload hx hb dA_placeOf_8 (lv_at hl 0 rfl) ?_
      refine lv_iconst (v := 1) hx hb dA_placeOf_10 (by decide) ?_
      refine lv_icmp_lt (tgt := 59) hx hb dA_placeOf_11 (by decide) (fun hc4 => ?_) (fun hc4 => ?_)
      · simp only [po_lp] at K
        exact K _ (lv_sub hl [1] rfl)
      · exact absurd (by decide) hc4
    | succ n ih =>
      intro a g ls hl hn hg K
      refine lv_iload hx hb dA_placeOf_8 (lv_at hl 0 rfl) ?_
      refine lv_iconst (v := 1) hx hb dA_placeOf_10 (by decide) ?_
      refine lv_icmp_lt (tgt := 59) hx hb dA_placeOf_11 (by decide) (fun hc5 => ?_) (fun hc5 => ?_)
      · exact absurd hc5 (by have := nI_nlt (a := n + 1) (b := 1) (by omega) (by omega); exact this)
      · refine lv_lload hx hb dA_placeOf_14 (lv_at hl 2 rfl) ?_
        refine lv_lconst (v := 0) hx hb dA_placeOf_16 (by decide) ?_
        refine jv_lceq (tgt := 59) hx hb dA_placeOf_17 dA_placeOf_18 (by decide) (fun hc6 => ?_) (fun hc6 => ?_)
        · simp only [po_lp, if_pos hc6] at K
          exact K _ (lv_sub hl [1] rfl)
        · refine lv_lload hx hb dA_placeOf_21 (lv_at hl 2 rfl) ?_
          refine pu_S (cA_highest l _) rfl kA_A_highest hS bl_T trivial rfl ⟨Nat.le_of_ble_eq_true rfl, Nat.le_of_ble_eq_true rfl⟩ hl.1 rfl (Nat.le_of_ble_eq_true rfl) ⟨Nat.zero_le _, Nat.zero_le _⟩ dA_placeOf_23 ?_
          refine lv_topi (fun x7 ex7 => ?_)
          refine lv_istore (lv' := [(7, .int x7), (6, .int (nI (n + 1))), (3, .int a), (4, .long g)]) hx hb dA_placeOf_26 hl (by decide) rfl (fun ls hl => ?_)
          refine lv_iload_n hx hb dA_placeOf_28 rfl (lv_at hl 2 rfl) ?_
          refine lv_iload hx hb dA_placeOf_29 (lv_at hl 0 rfl) ?_
          refine lv_iload hx hb dA_placeOf_31 (lv_at hl 1 rfl) ?_
          refine pu_S (cA_choose l _ _ (by subst_vars; obtain ⟨j, hj, ej⟩ := rk_0 hg (by assumption); rw [ej]; exact ch_in hj (by omega) hn)) rfl kA_A_choose hS bl_ta hB rfl ⟨Nat.le_of_ble_eq_true rfl, Nat.le_of_ble_eq_true rfl⟩ hl.1 rfl (Nat.le_of_ble_eq_true rfl) ⟨Nat.zero_le _, Nat.zero_le _⟩ dA_placeOf_33 ?_
          refine lv_iadd hx hb dA_placeOf_36 ?_
          refine lv_topi (fun x8 ex8 => ?_)
          refine lv_istore_n (lv' := [(3, .int x8), (7, .int x7), (6, .int (nI (n + 1))), (4, .long g)]) hx hb dA_placeOf_37 rfl hl (by decide) rfl (fun ls hl => ?_)
          refine lv_lload hx hb dA_placeOf_38 (lv_at hl 3 rfl) ?_
          refine lv_lconst (v := 1) hx hb dA_placeOf_40 (by decide) ?_
          refine lv_iconst (v := 4) hx hb dA_placeOf_41 (by decide) ?_
          refine lv_iload hx hb dA_placeOf_42 (lv_at hl 1 rfl) ?_
          refine lv_imul hx hb dA_placeOf_44 ?_
          refine jv_lshl hx hb dA_placeOf_45 ?_
          refine lv_ldc2 (v := (-1)) hx hb hown (hts _ (wd_in (gw_mem 183 rfl rfl))) dA_placeOf_46 ?_
          refine lv_lxor hx hb dA_placeOf_49 ?_
          refine lv_land hx hb dA_placeOf_50 ?_
          refine lv_topl (fun x9 ex9 => ?_)
          refine lv_lstore (lv' := [(4, .long x9), (3, .int x8), (7, .int x7), (6, .int (nI (n + 1)))]) hx hb dA_placeOf_51 hl (by decide) rfl (fun ls hl => ?_)
          refine jv_iinc (a := (-1)) hx hb dA_placeOf_53 hl (k := 3) rfl (by decide) (by decide) (fun x10 ex10 ls hl => ?_)
          have hl : lv_has ls 8 [(6, .int x10), (4, .long x9), (3, .int x8), (7, .int x7)] := hl
          refine lv_goto (tgt := 8) hx hb dA_placeOf_56 (by decide) ?_
          rw [nI_dec] at ex10
          subst ex10 ex9 ex8 ex7
          simp only [po_lp, if_neg hc6] at K
          exact ih _ _ ls (lv_sub hl [0, 2, 1] rfl) (by omega) (rk_and _ hg) K
  refine hloop k x1 x2 ls (by have h9 := lv_sub hl [0, 2, 1] rfl; subst ex3; exact h9) hk (by subst ex2; exact hr0) (fun ls hl => ?_)
  clear hloop
  obtain ⟨y11, ey11⟩ : ∃ z, z = (po_lp k x1 x2) := ⟨_, rfl⟩
  rw [← ey11] at hl
  refine lv_iload_n hx hb dA_placeOf_59 rfl (lv_at hl 0 rfl) ?_
  exact pu_iret hx hb hr hlk dA_placeOf_60 (by subst ey11 ex3 ex2 ex1; rfl)
set_option maxHeartbeats 4000000 in
set_option maxRecDepth 100000 in
theorem cA_placeBesideStraights (l : Launch) (r : Int64) (hr0 : rk r) : pu_M l yA_placeBesideStraights bA_placeBesideStraights 8 (some .int) 3 [.long r] ta_F (.int (f_pbs r)) := by
  refine Met.ofW (cc := bA_placeBesideStraights) (maxL := 8) (ret := (some .int)) (by decide) rfl ?_
  intro p e s m args below meth c s₁ BB hml hv
  obtain ⟨rfl, hB⟩ := hv
  have hx := BB.exec
  have hb := BB.bytes
  have hr := BB.returns
  have hlk := BB.notSynchronized
  have hts := atoms_spec (ws := wd yA_placeBesideStraights bA_placeBesideStraights 8 (some .int)) BB.pre
  have hown : s.vm.findClass "HandTables" = some m.cls := findClass_of_methodNamed BB.named
  have hS : CallFix p m c bA_placeBesideStraights 8 s _ (wd yA_placeBesideStraights bA_placeBesideStraights 8 (some .int)) "HandTables" := ⟨hx, hb, hml, hown, hts⟩
  obtain ⟨⟨t1, hT1⟩, ⟨t2, hT2⟩, ⟨t3, hT3⟩, ⟨t4, hT4⟩⟩ := id hB
  have hl := lv_entry ([.long r]) (n := 8) (Nat.le_of_ble_eq_true rfl)
  rw [lg_entry_eq]
  generalize (lg_sl ([.long r]) ++ List.replicate (8 - (lg_sl ([.long r])).length) Slot.unset).toArray = ls at hl ⊢
  have hl : lv_has ls 8 [(0, .long r)] := hl
  refine lv_lload_n hx hb dA_placeBesideStraights_0 rfl (lv_at hl 0 rfl) ?_
  refine lv_iconst (v := 5) hx hb dA_placeBesideStraights_1 (by decide) ?_
  refine pu_S (cA_placeOf l _ 5 (by decide) hr0) rfl kA_A_placeOf hS bl_ta hB rfl ⟨Nat.le_of_ble_eq_true rfl, Nat.le_of_ble_eq_true rfl⟩ hl.1 rfl (Nat.le_of_ble_eq_true rfl) ⟨Nat.zero_le _, Nat.zero_le _⟩ dA_placeBesideStraights_2 ?_
  refine lv_topi (fun x1 ex1 => ?_)
  refine lv_istore_n (lv' := [(2, .int x1), (0, .long r)]) hx hb dA_placeBesideStraights_5 rfl hl (by decide) rfl (fun ls hl => ?_)
  refine lv_iconst (v := 0) hx hb dA_placeBesideStraights_6 (by decide) ?_
  refine lv_topi (fun x2 ex2 => ?_)
  refine lv_istore_n (lv' := [(3, .int x2), (2, .int x1), (0, .long r)]) hx hb dA_placeBesideStraights_7 rfl hl (by decide) rfl (fun ls hl => ?_)
  refine ta_get hx hb hT3 hown (hts _ (wd_in (gw_mem 195 rfl rfl))) dA_placeBesideStraights_8 ?_
  refine lv_astore (lv' := [(4, .ref t3), (3, .int x2), (2, .int x1), (0, .long r)]) hx hb dA_placeBesideStraights_11 hl (by decide) rfl (fun ls hl => ?_)
  refine lv_aload hx hb dA_placeBesideStraights_13 (lv_at hl 0 rfl) ?_
  refine ta_len hx hb hT3 dA_placeBesideStraights_15 ?_
  refine lv_topi (fun x3 ex3 => ?_)
  refine lv_istore (lv' := [(5, .int x3), (4, .ref t3), (3, .int x2), (2, .int x1), (0, .long r)]) hx hb dA_placeBesideStraights_16 hl (by decide) rfl (fun ls hl => ?_)
  refine lv_iconst (v := 0) hx hb dA_placeBesideStraights_18 (by decide) ?_
  refine lv_topi (fun x4 ex4 => ?_)
  refine lv_istore (lv' := [(6, .int x4), (5, .int x3), (4, .ref t3), (3, .int x2), (2, .int x1), (0, .long r)]) hx hb dA_placeBesideStraights_19 hl (by decide) rfl (fun ls hl => ?_)
  have hloop : ∀ (n : Nat) (a : Int32) (ls : Array Slot), lv_has ls 8 [(6, .int (nI (10 - n))), (3, .int a), (2, .int x1), (4, .ref t3), (5, .int x3)] → (n ≤ 10) → (∀ ls : Array Slot, lv_has ls 8 [(3, .int (pb_lp x1 n a)), (2, .int x1)] → W p l e (headSpec (wd yA_placeBesideStraights bA_placeBesideStraights 8 (some .int)) (rmD 3 0 0)).room s m ([.long r]).toArray below meth c s.heap [] 0 0 (MQ below (pu_Q (.int (f_pbs r))) ([.long r]).toArray s 0 0 (fun _ => False)) (F0 m 50 ls [])) → W p l e (headSpec (wd yA_placeBesideStraights bA_placeBesideStraights 8 (some .int)) (rmD 3 0 0)).room s m ([.long r]).toArray below meth c s.heap [] 0 0 (MQ below (pu_Q (.int (f_pbs r))) ([.long r]).toArray s 0 0 (fun _ => False)) (F0 m 21 ls []) := by
    intro n
    induction n with
    | zero =>
      intro a ls hl hn K
      refine lv_iload hx hb dA_placeBesideStraights_21 (lv_at hl 0 rfl) ?_
      refine lv_iload hx hb dA_placeBesideStraights_23 (lv_at hl 4 rfl) ?_
      refine lv_icmp_ge (tgt := 50) hx hb dA_placeBesideStraights_25 (by decide) (fun hc5 => ?_) (fun hc5 => ?_)
      · simp only [pb_lp] at K
        exact K _ (lv_sub hl [1, 2] rfl)
      · exact absurd (by subst ex3; decide) hc5
    | succ n ih =>
      intro a ls hl hn K
      refine lv_iload hx hb dA_placeBesideStraights_21 (lv_at hl 0 rfl) ?_
      refine lv_iload hx hb dA_placeBesideStraights_23 (lv_at hl 4 rfl) ?_
      refine lv_icmp_ge (tgt := 50) hx hb dA_placeBesideStraights_25 (by decide) (fun hc6 => ?_) (fun hc6 => ?_)
      · exact absurd hc6 (by subst ex3; exact nI_ge (b := 10) (by omega) (by decide))
      · refine lv_aload hx hb dA_placeBesideStraights_28 (lv_at hl 3 rfl) ?_
        refine lv_iload hx hb dA_placeBesideStraights_30 (lv_at hl 0 rfl) ?_
        refine ta_ld hx hb hT3 (vp_in_nI (by simp only [l_STRP, List.length]; omega) (by decide)) dA_placeBesideStraights_32 ?_
        refine lv_topi (fun x7 ex7 => ?_)
        refine lv_istore (lv' := [(7, .int x7), (6, .int (nI (10 - (n + 1)))), (3, .int a), (2, .int x1), (4, .ref t3), (5, .int x3)]) hx hb dA_placeBesideStraights_33 hl (by decide) rfl (fun ls hl => ?_)
        refine lv_iload hx hb dA_placeBesideStraights_35 (lv_at hl 0 rfl) ?_
        refine lv_iload_n hx hb dA_placeBesideStraights_37 rfl (lv_at hl 3 rfl) ?_
        refine lv_icmp_ge (tgt := 44) hx hb dA_placeBesideStraights_38 (by decide) (fun hc8 => ?_) (fun hc8 => ?_)
        · refine jv_iinc (a := 1) hx hb dA_placeBesideStraights_44 hl (k := 1) rfl (by decide) (by decide) (fun x9 ex9 ls hl => ?_)
          have hl : lv_has ls 8 [(6, .int x9), (7, .int x7), (3, .int a), (2, .int x1), (4, .ref t3), (5, .int x3)] := hl
          refine lv_goto (tgt := 21) hx hb dA_placeBesideStraights_47 (by decide) ?_
          rw [nI_up (by omega)] at ex9
          subst ex9 ex7
          simp only [pb_lp, if_pos hc8] at K
          exact ih _ ls (lv_sub hl [0, 2, 3, 4, 5] rfl) (by omega) K
        · refine jv_iinc (a := 1) hx hb dA_placeBesideStraights_41 hl (k := 2) rfl (by decide) (by decide) (fun x10 ex10 ls hl => ?_)
          have hl : lv_has ls 8 [(3, .int x10), (7, .int x7), (6, .int (nI (10 - (n + 1)))), (2, .int x1), (4, .ref t3), (5, .int x3)] := hl
          refine jv_iinc (a := 1) hx hb dA_placeBesideStraights_44 hl (k := 2) rfl (by decide) (by decide) (fun x11 ex11 ls hl => ?_)
          have hl : lv_has ls 8 [(6, .int x11), (3, .int x10), (7, .int x7), (2, .int x1), (4, .ref t3), (5, .int x3)] := hl
          refine lv_goto (tgt := 21) hx hb dA_placeBesideStraights_47 (by decide) ?_
          rw [nI_up (by omega)] at ex11
          subst ex11 ex10 ex7
          simp only [pb_lp, if_neg hc8] at K
          exact ih _ ls (lv_sub hl [0, 1, 3, 4, 5] rfl) (by omega) K
  refine hloop 10 x2 ls (by have h9 := lv_sub hl [0, 3, 4, 2, 1] rfl; subst ex4; exact h9) (by decide) (fun ls hl => ?_)
  clear hloop
  obtain ⟨y12, ey12⟩ : ∃ z, z = (pb_lp x1 10 x2) := ⟨_, rfl⟩
  rw [← ey12] at hl
  refine lv_iload_n hx hb dA_placeBesideStraights_50 rfl (lv_at hl 1 rfl) ?_
  refine lv_iload_n hx hb dA_placeBesideStraights_51 rfl (lv_at hl 0 rfl) ?_
  refine lv_isub hx hb dA_placeBesideStraights_52 ?_
  exact pu_iret hx hb hr hlk dA_placeBesideStraights_53 (by subst ey12 ex4 ex3 ex2 ex1; rfl)
set_option maxHeartbeats 4000000 in
set_option maxRecDepth 100000 in
theorem cA_ranksBesideStraights (l : Launch) (q : Int32)  : pu_M l yA_ranksBesideStraights bA_ranksBesideStraights 6 (some .long) 2 [.int q] ta_F (.long (f_rbs q)) := by
  refine Met.ofW (cc := bA_ranksBesideStraights) (maxL := 6) (ret := (some .long)) (by decide) rfl ?_
  intro p e s m args below meth c s₁ BB hml hv
  obtain ⟨rfl, hB⟩ := hv
  have hx := BB.exec
  have hb := BB.bytes
  have hr := BB.returns
  have hlk := BB.notSynchronized
  have hts := atoms_spec (ws := wd yA_ranksBesideStraights bA_ranksBesideStraights 6 (some .long)) BB.pre
  have hown : s.vm.findClass "HandTables" = some m.cls := findClass_of_methodNamed BB.named
  have hS : CallFix p m c bA_ranksBesideStraights 6 s _ (wd yA_ranksBesideStraights bA_ranksBesideStraights 6 (some .long)) "HandTables" := ⟨hx, hb, hml, hown, hts⟩
  obtain ⟨⟨t1, hT1⟩, ⟨t2, hT2⟩, ⟨t3, hT3⟩, ⟨t4, hT4⟩⟩ := id hB
  have hl := lv_entry ([.int q]) (n := 6) (Nat.le_of_ble_eq_true rfl)
  rw [lg_entry_eq]
  generalize (lg_sl ([.int q]) ++ List.replicate (6 - (lg_sl ([.int q])).length) Slot.unset).toArray = ls at hl ⊢
  have hl : lv_has ls 6 [(0, .int q)] := hl
  refine lv_iload_n hx hb dA_ranksBesideStraights_0 rfl (lv_at hl 0 rfl) ?_
  refine lv_topi (fun x1 ex1 => ?_)
  refine lv_istore_n (lv' := [(1, .int x1), (0, .int q)]) hx hb dA_ranksBesideStraights_1 rfl hl (by decide) rfl (fun ls hl => ?_)
  refine ta_get hx hb hT3 hown (hts _ (wd_in (gw_mem 195 rfl rfl))) dA_ranksBesideStraights_2 ?_
  refine lv_astore_n (lv' := [(2, .ref t3), (1, .int x1), (0, .int q)]) hx hb dA_ranksBesideStraights_5 rfl hl (by decide) rfl (fun ls hl => ?_)
  refine lv_aload_n hx hb dA_ranksBesideStraights_6 rfl (lv_at hl 0 rfl) ?_
  refine ta_len hx hb hT3 dA_ranksBesideStraights_7 ?_
  refine lv_topi (fun x2 ex2 => ?_)
  refine lv_istore_n (lv' := [(3, .int x2), (2, .ref t3), (1, .int x1), (0, .int q)]) hx hb dA_ranksBesideStraights_8 rfl hl (by decide) rfl (fun ls hl => ?_)
  refine lv_iconst (v := 0) hx hb dA_ranksBesideStraights_9 (by decide) ?_
  refine lv_topi (fun x3 ex3 => ?_)
  refine lv_istore (lv' := [(4, .int x3), (3, .int x2), (2, .ref t3), (1, .int x1), (0, .int q)]) hx hb dA_ranksBesideStraights_10 hl (by decide) rfl (fun ls hl => ?_)
  have hloop : ∀ (n : Nat) (a : Int32) (ls : Array Slot), lv_has ls 6 [(4, .int (nI (10 - n))), (1, .int a), (2, .ref t3), (3, .int x2)] → (n ≤ 10) → (∀ ls : Array Slot, lv_has ls 6 [(1, .int (rb_lp n a))] → W p l e (headSpec (wd yA_ranksBesideStraights bA_ranksBesideStraights 6 (some .long)) (rmD 2 0 0)).room s m ([.int q]).toArray below meth c s.heap [] 0 0 (MQ below (pu_Q (.long (f_rbs q))) ([.int q]).toArray s 0 0 (fun _ => False)) (F0 m 39 ls [])) → W p l e (headSpec (wd yA_ranksBesideStraights bA_ranksBesideStraights 6 (some .long)) (rmD 2 0 0)).room s m ([.int q]).toArray below meth c s.heap [] 0 0 (MQ below (pu_Q (.long (f_rbs q))) ([.int q]).toArray s 0 0 (fun _ => False)) (F0 m 12 ls []) := by
    intro n
    induction n with
    | zero =>
      intro a ls hl hn K
      refine lv_iload hx hb dA_ranksBesideStraights_12 (lv_at hl 0 rfl) ?_
      refine lv_iload_n hx hb dA_ranksBesideStraights_14 rfl (lv_at hl 3 rfl) ?_
      refine lv_icmp_ge (tgt := 39) hx hb dA_ranksBesideStraights_15 (by decide) (fun hc4 => ?_) (fun hc4 => ?_)
      · simp only [rb_lp] at K
        exact K _ (lv_sub hl [1] rfl)
      · exact absurd (by subst ex2; decide) hc4
    | succ n ih =>
      intro a ls hl hn K
      refine lv_iload hx hb dA_ranksBesideStraights_12 (lv_at hl 0 rfl) ?_
      refine lv_iload_n hx hb dA_ranksBesideStraights_14 rfl (lv_at hl 3 rfl) ?_
      refine lv_icmp_ge (tgt := 39) hx hb dA_ranksBesideStraights_15 (by decide) (fun hc5 => ?_) (fun hc5 => ?_)
      · exact absurd hc5 (by subst ex2; exact nI_ge (b := 10) (by omega) (by decide))
      · refine lv_aload_n hx hb dA_ranksBesideStraights_18 rfl (lv_at hl 2 rfl) ?_
        refine lv_iload hx hb dA_ranksBesideStraights_19 (lv_at hl 0 rfl) ?_
        refine ta_ld hx hb hT3 (vp_in_nI (by simp only [l_STRP, List.length]; omega) (by decide)) dA_ranksBesideStraights_21 ?_
        refine lv_topi (fun x6 ex6 => ?_)
        refine lv_istore (lv' := [(5, .int x6), (4, .int (nI (10 - (n + 1)))), (1, .int a), (2, .ref t3), (3, .int x2)]) hx hb dA_ranksBesideStraights_22 hl (by decide) rfl (fun ls hl => ?_)
        refine lv_iload hx hb dA_ranksBesideStraights_24 (lv_at hl 0 rfl) ?_
        refine lv_iload_n hx hb dA_ranksBesideStraights_26 rfl (lv_at hl 2 rfl) ?_
        refine lv_icmp_gt (tgt := 33) hx hb dA_ranksBesideStraights_27 (by decide) (fun hc7 => ?_) (fun hc7 => ?_)
        · refine jv_iinc (a := 1) hx hb dA_ranksBesideStraights_33 hl (k := 1) rfl (by decide) (by decide) (fun x8 ex8 ls hl => ?_)
          have hl : lv_has ls 6 [(4, .int x8), (5, .int x6), (1, .int a), (2, .ref t3), (3, .int x2)] := hl
          refine lv_goto (tgt := 12) hx hb dA_ranksBesideStraights_36 (by decide) ?_
          rw [nI_up (by omega)] at ex8
          subst ex8 ex6
          simp only [rb_lp, if_pos hc7] at K
          exact ih _ ls (lv_sub hl [0, 2, 3, 4] rfl) (by omega) K
        · refine jv_iinc (a := 1) hx hb dA_ranksBesideStraights_30 hl (k := 2) rfl (by decide) (by decide) (fun x9 ex9 ls hl => ?_)
          have hl : lv_has ls 6 [(1, .int x9), (5, .int x6), (4, .int (nI (10 - (n + 1)))), (2, .ref t3), (3, .int x2)] := hl
          refine jv_iinc (a := 1) hx hb dA_ranksBesideStraights_33 hl (k := 2) rfl (by decide) (by decide) (fun x10 ex10 ls hl => ?_)
          have hl : lv_has ls 6 [(4, .int x10), (1, .int x9), (5, .int x6), (2, .ref t3), (3, .int x2)] := hl
          refine lv_goto (tgt := 12) hx hb dA_ranksBesideStraights_36 (by decide) ?_
          rw [nI_up (by omega)] at ex10
          subst ex10 ex9 ex6
          simp only [rb_lp, if_neg hc7] at K
          exact ih _ ls (lv_sub hl [0, 1, 3, 4] rfl) (by omega) K
  refine hloop 10 x1 ls (by have h9 := lv_sub hl [0, 3, 2, 1] rfl; subst ex3; exact h9) (by decide) (fun ls hl => ?_)
  clear hloop
  obtain ⟨y11, ey11⟩ : ∃ z, z = (rb_lp 10 x1) := ⟨_, rfl⟩
  rw [← ey11] at hl
  refine lv_iload_n hx hb dA_ranksBesideStraights_39 rfl (lv_at hl 0 rfl) ?_
  refine lv_iconst (v := 5) hx hb dA_ranksBesideStraights_40 (by decide) ?_
  refine pu_S (cA_ranksAt l _ 5 (by decide)) rfl kA_A_ranksAt hS bl_ta hB rfl ⟨Nat.le_of_ble_eq_true rfl, Nat.le_of_ble_eq_true rfl⟩ hl.1 rfl (Nat.le_of_ble_eq_true rfl) ⟨Nat.zero_le _, Nat.zero_le _⟩ dA_ranksBesideStraights_41 ?_
  exact pu_lret hx hb hr hlk dA_ranksBesideStraights_44 (by subst ey11 ex3 ex2 ex1; rfl)
