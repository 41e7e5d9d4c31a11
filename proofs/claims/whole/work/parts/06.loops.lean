/-! the class's loops over ranks -/
theorem nI_dec (n : Nat) : nI (n + 1) + (-1) = nI n := by
  have := nI_pred n
  rw [← this, Int32.sub_eq_add_neg]
theorem nI_up {N n : Nat} (h : n + 1 ≤ N) : nI (N - (n + 1)) + 1 = nI (N - n) := by
  rw [nI_1]
  congr 1
  omega
def w_lp (r : Int64) : Nat → Int32 → Int32 → Int32
  | 0, a, _ => a
  | n + 1, a, h => if r &&& jl 1 (4 * nI n) = 0 then w_lp r n a h else w_lp r n (a + jli (nI n + 1) h) (h + 4)
def f_written (r : Int64) (k : Int32) : Int32 := w_lp r 13 0 (4 * (k + 1))
def s_lp (r : Int64) : Nat → Int64
  | 0 => 0
  | n + 1 => if f_bc (ju r (nI (4 - (n + 1))) &&& 300239975158033) < 5 then s_lp r n else ju r (nI (4 - (n + 1))) &&& 300239975158033
def f_suited (r : Int64) : Int64 := s_lp r 4
def c_lp (v : Int32) : Nat → Int32
  | 0 => nI 0
  | n + 1 => if l_FIRST.getD (nI (n + 1)).toNatClampNeg 0 ≤ v then nI (n + 1) else c_lp v n
def f_cat (v : Int32) : Int32 := c_lp v 8
set_option maxHeartbeats 4000000 in
set_option maxRecDepth 100000 in
theorem cA_written (l : Launch) (r : Int64) (k : Int32)  : pu_M l yA_written bA_written 6 (some .int) 0 [.long r, .int k] (fun _ => True) (.int (f_written r k)) := by
  refine Met.ofW (cc := bA_written) (maxL := 6) (ret := (some .int)) (by decide) rfl ?_
  intro p e s m args below meth c s₁ BB hml hv
  obtain ⟨rfl, hB⟩ := hv
  have hx := BB.exec
  have hb := BB.bytes
  have hr := BB.returns
  have hlk := BB.notSynchronized
  have hts := atoms_spec (ws := wd yA_written bA_written 6 (some .int)) BB.pre
  have hown : s.vm.findClass "HandTables" = some m.cls := findClass_of_methodNamed BB.named
  have hS : CallFix p m c bA_written 6 s _ (wd yA_written bA_written 6 (some .int)) "HandTables" := ⟨hx, hb, hml, hown, hts⟩
  have hl := lv_entry ([.long r, .int k]) (n := 6) (Nat.le_of_ble_eq_true rfl)
  rw [lg_entry_eq]
  generalize (lg_sl ([.long r, .int k]) ++ List.replicate (6 - (lg_sl ([.long r, .int k])).length) Slot.unset).toArray = ls at hl ⊢
  have hl : lv_has ls 6 [(0, .long r), (2, .int k)] := hl
  refine lv_iconst (v := 0) hx hb dA_written_0 (by decide) ?_
  refine lv_topi (fun x1 ex1 => ?_)
  refine lv_istore_n (lv' := [(3, .int x1), (0, .long r), (2, .int k)]) hx hb dA_written_1 rfl hl (by decide) rfl (fun ls hl => ?_)
  refine lv_iconst (v := 4) hx hb dA_written_2 (by decide) ?_
  refine lv_iload_n hx hb dA_written_3 rfl (lv_at hl 2 rfl) ?_
  refine lv_iconst (v := 1) hx hb dA_written_4 (by decide) ?_
  refine lv_iadd hx hb dA_written_5 ?_
  refine lv_imul hx hb dA_written_6 ?_
  refine lv_topi (fun x2 ex2 => ?_)
  refine lv_istore (lv' := [(4, .int x2), (3, .int x1), (0, .long r), (2, .int k)]) hx hb dA_written_7 hl (by decide) rfl (fun ls hl => ?_)
  refine lv_bipush (v := 12) hx hb dA_written_9 (by decide) ?_
  refine lv_topi (fun x3 ex3 => ?_)
  refine lv_istore (lv' := [(5, .int x3), (4, .int x2), (3, .int x1), (0, .long r), (2, .int k)]) hx hb dA_written_11 hl (by decide) rfl (fun ls hl => ?_)
  have hloop : ∀ (n : Nat) (a : Int32) (h : Int32) (ls : Array Slot), lv_has ls 6 [(5, .int (nI n + (-1))), (3, .int a), (4, .int h), (0, .long r)] → (n ≤ 13) → (∀ ls : Array Slot, lv_has ls 6 [(3, .int (w_lp r n a h))] → W p l e (headSpec (wd yA_written bA_written 6 (some .int)) (rmD 0 0 0)).room s m ([.long r, .int k]).toArray below meth c s.heap [] 0 0 (MQ below (pu_Q (.int (f_written r k))) ([.long r, .int k]).toArray s 0 0 (fun _ => False)) (F0 m 50 ls [])) → W p l e (headSpec (wd yA_written bA_written 6 (some .int)) (rmD 0 0 0)).room s m ([.long r, .int k]).toArray below meth c s.heap [] 0 0 (MQ below (pu_Q (.int (f_written r k))) ([.long r, .int k]).toArray s 0 0 (fun _ => False)) (F0 m 13 ls []) := by
    intro n
    induction n with
    | zero =>
      intro a h ls hl hn K
      refine lv_iload hx hb dA_written_13 (lv_at hl 0 rfl) ?_
      refine lv_if_lt (tgt := 50) hx hb dA_written_15 (by decide) (fun hc4 => ?_) (fun hc4 => ?_)
      · simp only [w_lp] at K
        exact K _ (lv_sub hl [1] rfl)
      · exact absurd (by decide) hc4
    | succ n ih =>
      intro a h ls hl hn K
      have hl : lv_has ls 6 [(5, .int (nI n)), (3, .int a), (4, .int h), (0, .long r)] := by rw [nI_dec] at hl; exact hl
      refine lv_iload hx hb dA_written_13 (lv_at hl 0 rfl) ?_
      refine lv_if_lt (tgt := 50) hx hb dA_written_15 (by decide) (fun hc5 => ?_) (fun hc5 => ?_)
      · exact absurd hc5 (nI_pos (by omega))
      · refine lv_lload_n hx hb dA_written_18 rfl (lv_at hl 3 rfl) ?_
        refine lv_lconst (v := 1) hx hb dA_written_19 (by decide) ?_
        refine lv_iconst (v := 4) hx hb dA_written_20 (by decide) ?_
        refine lv_iload hx hb dA_written_21 (lv_at hl 0 rfl) ?_
        refine lv_imul hx hb dA_written_23 ?_
        refine jv_lshl hx hb dA_written_24 ?_
        refine lv_land hx hb dA_written_25 ?_
        refine lv_lconst (v := 0) hx hb dA_written_26 (by decide) ?_
        refine jv_lceq (tgt := 44) hx hb dA_written_27 dA_written_28 (by decide) (fun hc6 => ?_) (fun hc6 => ?_)
        · refine jv_iinc (a := (-1)) hx hb dA_written_44 hl (k := 0) rfl (by decide) (by decide) (fun x7 ex7 ls hl => ?_)
          have hl : lv_has ls 6 [(5, .int x7), (3, .int a), (4, .int h), (0, .long r)] := hl
          refine lv_goto (tgt := 13) hx hb dA_written_47 (by decide) ?_
          subst ex7
          simp only [w_lp, if_pos hc6] at K
          exact ih _ _ ls (lv_sub hl [0, 1, 2, 3] rfl) (by omega) K
        · refine lv_iload_n hx hb dA_written_31 rfl (lv_at hl 1 rfl) ?_
          refine lv_iload hx hb dA_written_32 (lv_at hl 0 rfl) ?_
          refine lv_iconst (v := 1) hx hb dA_written_34 (by decide) ?_
          refine lv_iadd hx hb dA_written_35 ?_
          refine lv_iload hx hb dA_written_36 (lv_at hl 2 rfl) ?_
          refine jv_ishl hx hb dA_written_38 ?_
          refine lv_iadd hx hb dA_written_39 ?_
          refine lv_topi (fun x8 ex8 => ?_)
          refine lv_istore_n (lv' := [(3, .int x8), (5, .int (nI n)), (4, .int h), (0, .long r)]) hx hb dA_written_40 rfl hl (by decide) rfl (fun ls hl => ?_)
          refine jv_iinc (a := 4) hx hb dA_written_41 hl (k := 2) rfl (by decide) (by decide) (fun x9 ex9 ls hl => ?_)
          have hl : lv_has ls 6 [(4, .int x9), (3, .int x8), (5, .int (nI n)), (0, .long r)] := hl
          refine jv_iinc (a := (-1)) hx hb dA_written_44 hl (k := 2) rfl (by decide) (by decide) (fun x10 ex10 ls hl => ?_)
          have hl : lv_has ls 6 [(5, .int x10), (4, .int x9), (3, .int x8), (0, .long r)] := hl
          refine lv_goto (tgt := 13) hx hb dA_written_47 (by decide) ?_
          subst ex10 ex9 ex8
          simp only [w_lp, if_neg hc6] at K
          exact ih _ _ ls (lv_sub hl [0, 2, 1, 3] rfl) (by omega) K
  refine hloop 13 x1 x2 ls (by have h9 := lv_sub hl [0, 2, 1, 3] rfl; subst ex3; exact h9) (by decide) (fun ls hl => ?_)
  clear hloop
  obtain ⟨y11, ey11⟩ : ∃ z, z = (w_lp r 13 x1 x2) := ⟨_, rfl⟩
  rw [← ey11] at hl
  refine lv_iload_n hx hb dA_written_50 rfl (lv_at hl 0 rfl) ?_
  exact pu_iret hx hb hr hlk dA_written_51 (by subst ey11 ex3 ex2 ex1; rfl)
set_option maxHeartbeats 4000000 in
set_option maxRecDepth 100000 in
theorem cA_suitedRanks (l : Launch) (r : Int64)  : pu_M l yA_suitedRanks bA_suitedRanks 5 (some .long) 1 [.long r] (fun _ => True) (.long (f_suited r)) := by
  refine Met.ofW (cc := bA_suitedRanks) (maxL := 5) (ret := (some .long)) (by decide) rfl ?_
  intro p e s m args below meth c s₁ BB hml hv
  obtain ⟨rfl, hB⟩ := hv
  have hx := BB.exec
  have hb := BB.bytes
  have hr := BB.returns
  have hlk := BB.notSynchronized
  have hts := atoms_spec (ws := wd yA_suitedRanks bA_suitedRanks 5 (some .long)) BB.pre
  have hown : s.vm.findClass "HandTables" = some m.cls := findClass_of_methodNamed BB.named
  have hS : CallFix p m c bA_suitedRanks 5 s _ (wd yA_suitedRanks bA_suitedRanks 5 (some .long)) "HandTables" := ⟨hx, hb, hml, hown, hts⟩
  have hl := lv_entry ([.long r]) (n := 5) (Nat.le_of_ble_eq_true rfl)
  rw [lg_entry_eq]
  generalize (lg_sl ([.long r]) ++ List.replicate (5 - (lg_sl ([.long r])).length) Slot.unset).toArray = ls at hl ⊢
  have hl : lv_has ls 5 [(0, .long r)] := hl
  refine lv_iconst (v := 0) hx hb dA_suitedRanks_0 (by decide) ?_
  refine lv_topi (fun x1 ex1 => ?_)
  refine lv_istore_n (lv' := [(2, .int x1), (0, .long r)]) hx hb dA_suitedRanks_1 rfl hl (by decide) rfl (fun ls hl => ?_)
  have hloop : ∀ (n : Nat)  (ls : Array Slot), lv_has ls 5 [(2, .int (nI (4 - n))), (0, .long r)] → (n ≤ 4) → (f_suited r = s_lp r n) → W p l e (headSpec (wd yA_suitedRanks bA_suitedRanks 5 (some .long)) (rmD 1 0 0)).room s m ([.long r]).toArray below meth c s.heap [] 0 0 (MQ below (pu_Q (.long (f_suited r))) ([.long r]).toArray s 0 0 (fun _ => False)) (F0 m 2 ls []) := by
    intro n
    induction n with
    | zero =>
      intro  ls hl hn hF
      refine lv_iload_n hx hb dA_suitedRanks_2 rfl (lv_at hl 0 rfl) ?_
      refine lv_iconst (v := 4) hx hb dA_suitedRanks_3 (by decide) ?_
      refine lv_icmp_ge (tgt := 31) hx hb dA_suitedRanks_4 (by decide) (fun hc2 => ?_) (fun hc2 => ?_)
      · refine lv_lconst (v := 0) hx hb dA_suitedRanks_31 (by decide) ?_
        exact pu_lret hx hb hr hlk dA_suitedRanks_32 (by subst ex1; rw [hF]; rfl)
      · exact absurd (by decide) hc2
    | succ n ih =>
      intro  ls hl hn hF
      refine lv_iload_n hx hb dA_suitedRanks_2 rfl (lv_at hl 0 rfl) ?_
      refine lv_iconst (v := 4) hx hb dA_suitedRanks_3 (by decide) ?_
      refine lv_icmp_ge (tgt := 31) hx hb dA_suitedRanks_4 (by decide) (fun hc3 => ?_) (fun hc3 => ?_)
      · exact absurd hc3 (nI_ge (b := 4) (by omega) (by decide))
      · refine lv_lload_n hx hb dA_suitedRanks_7 rfl (lv_at hl 1 rfl) ?_
        refine lv_iload_n hx hb dA_suitedRanks_8 rfl (lv_at hl 0 rfl) ?_
        refine jv_lushr hx hb dA_suitedRanks_9 ?_
        refine lv_ldc2 (v := 300239975158033) hx hb hown (hts _ (wd_in (gw_mem 171 rfl rfl))) dA_suitedRanks_10 ?_
        refine lv_land hx hb dA_suitedRanks_13 ?_
        refine lv_topl (fun x4 ex4 => ?_)
        refine lv_lstore_n (lv' := [(3, .long x4), (2, .int (nI (4 - (n + 1)))), (0, .long r)]) hx hb dA_suitedRanks_14 rfl hl (by decide) rfl (fun ls hl => ?_)
        refine lv_lload_n hx hb dA_suitedRanks_15 rfl (lv_at hl 0 rfl) ?_
        refine pu_S (cJ_bitCount l _) rfl kA_J_bitCount hS bl_T trivial rfl ⟨Nat.le_of_ble_eq_true rfl, Nat.le_of_ble_eq_true rfl⟩ hl.1 rfl (Nat.le_of_ble_eq_true rfl) ⟨Nat.zero_le _, Nat.zero_le _⟩ dA_suitedRanks_16 ?_
        refine lv_iconst (v := 5) hx hb dA_suitedRanks_19 (by decide) ?_
        refine lv_icmp_lt (tgt := 25) hx hb dA_suitedRanks_20 (by decide) (fun hc5 => ?_) (fun hc5 => ?_)
        · refine jv_iinc (a := 1) hx hb dA_suitedRanks_25 hl (k := 1) rfl (by decide) (by decide) (fun x6 ex6 ls hl => ?_)
          have hl : lv_has ls 5 [(2, .int x6), (3, .long x4), (0, .long r)] := hl
          refine lv_goto (tgt := 2) hx hb dA_suitedRanks_28 (by decide) ?_
          rw [nI_up (by omega)] at ex6
          subst ex6 ex4
          exact ih  ls (lv_sub hl [0, 2] rfl) (by omega) (by rw [hF]; simp only [s_lp, if_pos hc5])
        · refine lv_lload_n hx hb dA_suitedRanks_23 rfl (lv_at hl 0 rfl) ?_
          exact pu_lret hx hb hr hlk dA_suitedRanks_24 (by subst ex4 ex1; rw [hF]; simp only [s_lp, if_neg hc5])
  exact hloop 4  ls (by have h9 := lv_sub hl [0, 1] rfl; subst ex1; exact h9) (by decide) rfl
set_option maxHeartbeats 4000000 in
set_option maxRecDepth 100000 in
theorem cA_categoryOf (l : Launch) (v : Int32)  : pu_M l yA_categoryOf bA_categoryOf 2 (some .int) 0 [.int v] ta_F (.int (f_cat v)) := by
  refine Met.ofW (cc := bA_categoryOf) (maxL := 2) (ret := (some .int)) (by decide) rfl ?_
  intro p e s m args below meth c s₁ BB hml hv
  obtain ⟨rfl, hB⟩ := hv
  have hx := BB.exec
  have hb := BB.bytes
  have hr := BB.returns
  have hlk := BB.notSynchronized
  have hts := atoms_spec (ws := wd yA_categoryOf bA_categoryOf 2 (some .int)) BB.pre
  have hown : s.vm.findClass "HandTables" = some m.cls := findClass_of_methodNamed BB.named
  have hS : CallFix p m c bA_categoryOf 2 s _ (wd yA_categoryOf bA_categoryOf 2 (some .int)) "HandTables" := ⟨hx, hb, hml, hown, hts⟩
  obtain ⟨⟨t1, hT1⟩, ⟨t2, hT2⟩, ⟨t3, hT3⟩, ⟨t4, hT4⟩⟩ := id hB
  have hl := lv_entry ([.int v]) (n := 2) (Nat.le_of_ble_eq_true rfl)
  rw [lg_entry_eq]
  generalize (lg_sl ([.int v]) ++ List.replicate (2 - (lg_sl ([.int v])).length) Slot.unset).toArray = ls at hl ⊢
  have hl : lv_has ls 2 [(0, .int v)] := hl
  refine lv_bipush (v := 8) hx hb dA_categoryOf_0 (by decide) ?_
  refine lv_topi (fun x1 ex1 => ?_)
  refine lv_istore_n (lv' := [(1, .int x1), (0, .int v)]) hx hb dA_categoryOf_2 rfl hl (by decide) rfl (fun ls hl => ?_)
  have hloop : ∀ (n : Nat)  (ls : Array Slot), lv_has ls 2 [(1, .int (nI n)), (0, .int v)] → (n ≤ 8) → (∀ ls : Array Slot, lv_has ls 2 [(1, .int (c_lp v n))] → W p l e (headSpec (wd yA_categoryOf bA_categoryOf 2 (some .int)) (rmD 0 0 0)).room s m ([.int v]).toArray below meth c s.heap [] 0 0 (MQ below (pu_Q (.int (f_cat v))) ([.int v]).toArray s 0 0 (fun _ => False)) (F0 m 22 ls [])) → W p l e (headSpec (wd yA_categoryOf bA_categoryOf 2 (some .int)) (rmD 0 0 0)).room s m ([.int v]).toArray below meth c s.heap [] 0 0 (MQ below (pu_Q (.int (f_cat v))) ([.int v]).toArray s 0 0 (fun _ => False)) (F0 m 3 ls []) := by
    intro n
    induction n with
    | zero =>
      intro  ls hl hn K
      refine lv_iload_n hx hb dA_categoryOf_3 rfl (lv_at hl 0 rfl) ?_
      refine lv_if_le (tgt := 22) hx hb dA_categoryOf_4 (by decide) (fun hc2 => ?_) (fun hc2 => ?_)
      · simp only [c_lp] at K
        exact K _ (lv_sub hl [0] rfl)
      · exact absurd (by decide) hc2
    | succ n ih =>
      intro  ls hl hn K
      refine lv_iload_n hx hb dA_categoryOf_3 rfl (lv_at hl 0 rfl) ?_
      refine lv_if_le (tgt := 22) hx hb dA_categoryOf_4 (by decide) (fun hc3 => ?_) (fun hc3 => ?_)
      · exact absurd hc3 (nI_nle (by omega) (by omega))
      · refine lv_iload_n hx hb dA_categoryOf_7 rfl (lv_at hl 1 rfl) ?_
        refine ta_get hx hb hT1 hown (hts _ (wd_in (gw_mem 175 rfl rfl))) dA_categoryOf_8 ?_
        refine lv_iload_n hx hb dA_categoryOf_11 rfl (lv_at hl 0 rfl) ?_
        refine ta_ld hx hb hT1 (vp_in_nI (by simp only [l_FIRST, List.length]; omega) (by decide)) dA_categoryOf_12 ?_
        refine lv_icmp_ge (tgt := 22) hx hb dA_categoryOf_13 (by decide) (fun hc4 => ?_) (fun hc4 => ?_)
        · simp only [c_lp, if_pos hc4] at K
          exact K _ (lv_sub hl [0] rfl)
        · refine jv_iinc (a := (-1)) hx hb dA_categoryOf_16 hl (k := 0) rfl (by decide) (by decide) (fun x5 ex5 ls hl => ?_)
          have hl : lv_has ls 2 [(1, .int x5), (0, .int v)] := hl
          refine lv_goto (tgt := 3) hx hb dA_categoryOf_19 (by decide) ?_
          rw [nI_dec] at ex5
          subst ex5
          simp only [c_lp, if_neg hc4] at K
          exact ih  ls (lv_sub hl [0, 1] rfl) (by omega) K
  refine hloop 8  ls (by have h9 := lv_sub hl [0, 1] rfl; subst ex1; exact h9) (by decide) (fun ls hl => ?_)
  clear hloop
  obtain ⟨y6, ey6⟩ : ∃ z, z = (c_lp v 8) := ⟨_, rfl⟩
  rw [← ey6] at hl
  refine lv_iload_n hx hb dA_categoryOf_22 rfl (lv_at hl 0 rfl) ?_
  exact pu_iret hx hb hr hlk dA_categoryOf_23 (by subst ey6 ex1; rfl)
