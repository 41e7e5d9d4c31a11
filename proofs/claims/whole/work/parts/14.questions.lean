/-! the public questions -/
theorem ca_le (v : Int32) : ∀ n, ∃ j, j ≤ n ∧ c_lp v n = nI j
  | 0 => ⟨0, by omega, rfl⟩
  | n + 1 => by
    unfold c_lp
    split
    · exact ⟨n + 1, by omega, rfl⟩
    · obtain ⟨j, h, e⟩ := ca_le v n
      exact ⟨j, by omega, e⟩
theorem ca_in (v : Int32) {N : Nat} (h : 8 < N) (hN : N < 2 ^ 31) : vp_in (f_cat v) N := by
  obtain ⟨j, hj, e⟩ := ca_le v 8
  show vp_in (c_lp v 8) N
  rw [e]
  exact vp_in_nI (by omega) hN
theorem fr_in {k : Int32} (h1 : ¬ k < 0) (h2 : k ≤ 9) : vp_in k 10 := by
  obtain ⟨j, hj, e⟩ := nI_of2 (M := 9) (n := 9) rfl h1 h2
  rw [e]
  exact vp_in_nI (by omega) (by decide)
theorem se_in {k : Int32} (h : ¬ q_seat k) : vp_in k 7 := by
  have h1 : ¬ k < 0 := fun z => h (Or.inl z)
  have h2 : k < 6 := Classical.not_not.mp fun z => h (Or.inr z)
  obtain ⟨j, hj, e⟩ := nI_of2 (M := 6) (n := 6) rfl h1 (Int32.le_of_lt h2)
  rw [e]
  exact vp_in_nI (by omega) (by decide)
def be_lp (x : Int64) (v : Int32) : Nat → Int64 → Int64
  | 0, y => y
  | n + 1, y => if f_five y v = 0 then be_lp x v n ((y - 1) &&& x) else y
def ou_lp (T : Nat → Int64) (f : Int64) (k : Int32) : Nat → Int64 → Int64
  | 0, a => a
  | n + 1, a => if f &&& jl 1 (nI (52 - (n + 1))) = 0 then ou_lp T f k n a
    else if g_lead T (T (6 : Int32).toNatClampNeg ||| (f &&& jl 1 (nI (52 - (n + 1))))) = jli 1 k then ou_lp T f k n (a ||| (f &&& jl 1 (nI (52 - (n + 1))))) else ou_lp T f k n a
def g_outs (T : Nat → Int64) (k : Int32) : Int64 := ou_lp T (g_free T) k 52 0
def g_best (x : Int64) : Int64 := be_lp x (f_valueOf x) 128 x
def g_share (w k p : Int32) : Int32 :=
  if f_bi w = 0 then 0 else if w &&& jli 1 k = 0 then 0 else p / f_bi w + (if jrem p (f_bi w) ≤ f_bi (w &&& (jli 1 k - 1)) then 0 else 1)
def g_boards (m f : Int32) : Int32 := if m = 0 then 1 else if m = 1 then f else f * (f - 1) / 2
abbrev r_i (v : Int32) : String ⊕ Option Value := .inr (some (.int v))
abbrev r_l (v : Int64) : String ⊕ Option Value := .inr (some (.long v))
set_option maxHeartbeats 4000000 in
set_option maxRecDepth 100000 in
theorem cA_value (l : Launch) (g : xo_E) (T : Nat → Int64) (dk : Nat → Int32) (dn : Int32) (x : Int64) (hst : l.stackTraces = false)  : px_M l yA_value bA_value 3 (some .int) 7 [.ref (xo_a g), .long x] (xo_F g T dk dn) (if q_hand x then .inl ex_IA else r_i (f_valueOf x)) := by
  refine vx_ofW (cc := bA_value) (maxL := 3) (ret := (some .int)) (by decide) rfl ?_
  intro p e s m args below meth c s₁ BB hml hout hv
  obtain ⟨rfl, hB⟩ := hv
  have hx := BB.exec
  have hb := BB.bytes
  have hr := BB.returns
  have hlk := BB.notSynchronized
  have hts := atoms_spec (ws := wd yA_value bA_value 3 (some .int)) BB.pre
  have hown : s.vm.findClass "HandTables" = some m.cls := findClass_of_methodNamed BB.named
  have hS : CallFix p m c bA_value 3 s _ (wd yA_value bA_value 3 (some .int)) "HandTables" := ⟨hx, hb, hml, hown, hts⟩
  obtain ⟨hTa, hEx, hP, hK⟩ := id hB
  obtain ⟨⟨t1, hT1⟩, ⟨t2, hT2⟩, ⟨t3, hT3⟩, ⟨t4, hT4⟩⟩ := id hTa
  have hl := lv_entry ([.ref (xo_a g), .long x]) (n := 3) (Nat.le_of_ble_eq_true rfl)
  rw [lg_entry_eq]
  generalize (lg_sl ([.ref (xo_a g), .long x]) ++ List.replicate (3 - (lg_sl ([.ref (xo_a g), .long x])).length) Slot.unset).toArray = ls at hl ⊢
  have hl : lv_has ls 3 [(0, .ref (xo_a g)), (1, .long x)] := hl
  refine lv_lload_n hx hb dA_value_0 rfl (lv_at hl 1 rfl) ?_
  refine px_S (cA_requireHand l _ hst) rfl kA_A_requireHand hS bl_ex hEx ⟨Nat.le_of_ble_eq_true rfl, Nat.le_of_ble_eq_true rfl⟩ hl.1 rfl (Nat.le_of_ble_eq_true rfl) ⟨Nat.le_of_ble_eq_true rfl, Nat.le_of_ble_eq_true rfl⟩ dA_value_1 hout hlk (fun E h9 => ?_) (fun v hv => ?_)
  · obtain ⟨hc1, rfl⟩ := ri_then h9
    (try simp only [if_pos hc1]) <;> rfl
  obtain ⟨hc1, rfl⟩ := ri_else hv
  refine lv_lload_n hx hb dA_value_4 rfl (lv_at hl 1 rfl) ?_
  refine pu_S (cA_valueOf l _) rfl kA_A_valueOf hS bl_ta hTa rfl ⟨Nat.le_of_ble_eq_true rfl, Nat.le_of_ble_eq_true rfl⟩ hl.1 rfl (Nat.le_of_ble_eq_true rfl) ⟨Nat.zero_le _, Nat.zero_le _⟩ dA_value_5 ?_
  exact px_iret hx hb hr hlk dA_value_8 (by (try simp only [if_neg hc1]) <;> rfl)
set_option maxHeartbeats 4000000 in
set_option maxRecDepth 100000 in
theorem cA_category (l : Launch) (g : xo_E) (T : Nat → Int64) (dk : Nat → Int32) (dn : Int32) (x : Int64) (hst : l.stackTraces = false)  : px_M l yA_category bA_category 3 (some .int) 7 [.ref (xo_a g), .long x] (xo_F g T dk dn) (if q_hand x then .inl ex_IA else r_i (f_cat (f_valueOf x))) := by
  refine vx_ofW (cc := bA_category) (maxL := 3) (ret := (some .int)) (by decide) rfl ?_
  intro p e s m args below meth c s₁ BB hml hout hv
  obtain ⟨rfl, hB⟩ := hv
  have hx := BB.exec
  have hb := BB.bytes
  have hr := BB.returns
  have hlk := BB.notSynchronized
  have hts := atoms_spec (ws := wd yA_category bA_category 3 (some .int)) BB.pre
  have hown : s.vm.findClass "HandTables" = some m.cls := findClass_of_methodNamed BB.named
  have hS : CallFix p m c bA_category 3 s _ (wd yA_category bA_category 3 (some .int)) "HandTables" := ⟨hx, hb, hml, hown, hts⟩
  obtain ⟨hTa, hEx, hP, hK⟩ := id hB
  obtain ⟨⟨t1, hT1⟩, ⟨t2, hT2⟩, ⟨t3, hT3⟩, ⟨t4, hT4⟩⟩ := id hTa
  have hl := lv_entry ([.ref (xo_a g), .long x]) (n := 3) (Nat.le_of_ble_eq_true rfl)
  rw [lg_entry_eq]
  generalize (lg_sl ([.ref (xo_a g), .long x]) ++ List.replicate (3 - (lg_sl ([.ref (xo_a g), .long x])).length) Slot.unset).toArray = ls at hl ⊢
  have hl : lv_has ls 3 [(0, .ref (xo_a g)), (1, .long x)] := hl
  refine lv_lload_n hx hb dA_category_0 rfl (lv_at hl 1 rfl) ?_
  refine px_S (cA_requireHand l _ hst) rfl kA_A_requireHand hS bl_ex hEx ⟨Nat.le_of_ble_eq_true rfl, Nat.le_of_ble_eq_true rfl⟩ hl.1 rfl (Nat.le_of_ble_eq_true rfl) ⟨Nat.le_of_ble_eq_true rfl, Nat.le_of_ble_eq_true rfl⟩ dA_category_1 hout hlk (fun E h9 => ?_) (fun v hv => ?_)
  · obtain ⟨hc1, rfl⟩ := ri_then h9
    (try simp only [if_pos hc1]) <;> rfl
  obtain ⟨hc1, rfl⟩ := ri_else hv
  refine lv_lload_n hx hb dA_category_4 rfl (lv_at hl 1 rfl) ?_
  refine pu_S (cA_valueOf l _) rfl kA_A_valueOf hS bl_ta hTa rfl ⟨Nat.le_of_ble_eq_true rfl, Nat.le_of_ble_eq_true rfl⟩ hl.1 rfl (Nat.le_of_ble_eq_true rfl) ⟨Nat.zero_le _, Nat.zero_le _⟩ dA_category_5 ?_
  refine pu_S (cA_categoryOf l _) rfl kA_A_categoryOf hS bl_ta hTa rfl ⟨Nat.le_of_ble_eq_true rfl, Nat.le_of_ble_eq_true rfl⟩ hl.1 rfl (Nat.le_of_ble_eq_true rfl) ⟨Nat.zero_le _, Nat.zero_le _⟩ dA_category_8 ?_
  exact px_iret hx hb hr hlk dA_category_11 (by (try simp only [if_neg hc1]) <;> rfl)
set_option maxHeartbeats 4000000 in
set_option maxRecDepth 100000 in
theorem cA_best (l : Launch) (g : xo_E) (T : Nat → Int64) (dk : Nat → Int32) (dn : Int32) (x : Int64) (hst : l.stackTraces = false)  : px_M l yA_best bA_best 7 (some .long) 7 [.ref (xo_a g), .long x] (xo_F g T dk dn) (if q_hand x then .inl ex_IA else r_l (g_best x)) := by
  refine vx_ofW (cc := bA_best) (maxL := 7) (ret := (some .long)) (by decide) rfl ?_
  intro p e s m args below meth c s₁ BB hml hout hv
  obtain ⟨rfl, hB⟩ := hv
  have hx := BB.exec
  have hb := BB.bytes
  have hr := BB.returns
  have hlk := BB.notSynchronized
  have hts := atoms_spec (ws := wd yA_best bA_best 7 (some .long)) BB.pre
  have hown : s.vm.findClass "HandTables" = some m.cls := findClass_of_methodNamed BB.named
  have hS : CallFix p m c bA_best 7 s _ (wd yA_best bA_best 7 (some .long)) "HandTables" := ⟨hx, hb, hml, hown, hts⟩
  obtain ⟨hTa, hEx, hP, hK⟩ := id hB
  obtain ⟨⟨t1, hT1⟩, ⟨t2, hT2⟩, ⟨t3, hT3⟩, ⟨t4, hT4⟩⟩ := id hTa
  have hl := lv_entry ([.ref (xo_a g), .long x]) (n := 7) (Nat.le_of_ble_eq_true rfl)
  rw [lg_entry_eq]
  generalize (lg_sl ([.ref (xo_a g), .long x]) ++ List.replicate (7 - (lg_sl ([.ref (xo_a g), .long x])).length) Slot.unset).toArray = ls at hl ⊢
  have hl : lv_has ls 7 [(0, .ref (xo_a g)), (1, .long x)] := hl
  refine lv_lload_n hx hb dA_best_0 rfl (lv_at hl 1 rfl) ?_
  refine px_S (cA_requireHand l _ hst) rfl kA_A_requireHand hS bl_ex hEx ⟨Nat.le_of_ble_eq_true rfl, Nat.le_of_ble_eq_true rfl⟩ hl.1 rfl (Nat.le_of_ble_eq_true rfl) ⟨Nat.le_of_ble_eq_true rfl, Nat.le_of_ble_eq_true rfl⟩ dA_best_1 hout hlk (fun E h9 => ?_) (fun v hv => ?_)
  · obtain ⟨hc1, rfl⟩ := ri_then h9
    (try simp only [if_pos hc1]) <;> rfl
  obtain ⟨hc1, rfl⟩ := ri_else hv
  refine lv_lload_n hx hb dA_best_4 rfl (lv_at hl 1 rfl) ?_
  refine pu_S (cA_valueOf l _) rfl kA_A_valueOf hS bl_ta hTa rfl ⟨Nat.le_of_ble_eq_true rfl, Nat.le_of_ble_eq_true rfl⟩ hl.1 rfl (Nat.le_of_ble_eq_true rfl) ⟨Nat.zero_le _, Nat.zero_le _⟩ dA_best_5 ?_
  refine jt_topi (fun x2 ex2 => ?_)
  refine lv_istore_n (lv' := [(3, .int x2), (0, .ref (xo_a g)), (1, .long x)]) hx hb dA_best_8 rfl hl (by decide) rfl (fun ls hl => ?_)
  refine lv_lload_n hx hb dA_best_9 rfl (lv_at hl 2 rfl) ?_
  refine jt_topl (fun x3 ex3 => ?_)
  refine lv_lstore (lv' := [(4, .long x3), (3, .int x2), (0, .ref (xo_a g)), (1, .long x)]) hx hb dA_best_10 hl (by decide) rfl (fun ls hl => ?_)
  refine lv_iconst (v := 0) hx hb dA_best_12 (by decide) ?_
  refine jt_topi (fun x4 ex4 => ?_)
  refine lv_istore (lv' := [(6, .int x4), (4, .long x3), (3, .int x2), (0, .ref (xo_a g)), (1, .long x)]) hx hb dA_best_13 hl (by decide) rfl (fun ls hl => ?_)
  have hloop : ∀ (n : Nat) (y : Int64) (ls : Array Slot), lv_has ls 7 [(6, .int (nI (128 - n))), (4, .long y), (3, .int x2), (1, .long x)] → (n ≤ 128) → (∀ ls : Array Slot, lv_has ls 7 [(4, .long (be_lp x x2 n y))] → W p l e (headSpec (wd yA_best bA_best 7 (some .long)) (rmD 7 1 6)).room s m ([.ref (xo_a g), .long x]).toArray below meth c s.heap [] 0 0 (vx_MQ below (px_Q (if q_hand x then .inl ex_IA else r_l (g_best x))) (px_X (if q_hand x then .inl ex_IA else r_l (g_best x))) ([.ref (xo_a g), .long x]).toArray s 1 6 (fun _ => False)) (F0 m 46 ls [])) → W p l e (headSpec (wd yA_best bA_best 7 (some .long)) (rmD 7 1 6)).room s m ([.ref (xo_a g), .long x]).toArray below meth c s.heap [] 0 0 (vx_MQ below (px_Q (if q_hand x then .inl ex_IA else r_l (g_best x))) (px_X (if q_hand x then .inl ex_IA else r_l (g_best x))) ([.ref (xo_a g), .long x]).toArray s 1 6 (fun _ => False)) (F0 m 15 ls []) := by
    intro n
    induction n with
    | zero =>
      intro y ls hl hn K
      refine lv_iload hx hb dA_best_15 (lv_at hl 0 rfl) ?_
      refine lv_sipush (v := 128) hx hb dA_best_17 (by decide) ?_
      refine lv_icmp_ge (tgt := 46) hx hb dA_best_20 (by decide) (fun hc5 => ?_) (fun hc5 => ?_)
      · simp only [be_lp] at K
        exact K _ (lv_sub hl [1] rfl)
      · exact absurd (by decide) hc5
    | succ n ih =>
      intro y ls hl hn K
      refine lv_iload hx hb dA_best_15 (lv_at hl 0 rfl) ?_
      refine lv_sipush (v := 128) hx hb dA_best_17 (by decide) ?_
      refine lv_icmp_ge (tgt := 46) hx hb dA_best_20 (by decide) (fun hc6 => ?_) (fun hc6 => ?_)
      · exact absurd hc6 (nI_ge (b := 128) (by omega) (by decide))
      · refine lv_lload hx hb dA_best_23 (lv_at hl 1 rfl) ?_
        refine lv_iload_n hx hb dA_best_25 rfl (lv_at hl 2 rfl) ?_
        refine pu_S (cA_isFiveWorth l _ _) rfl kA_A_isFiveWorth hS bl_ta hTa rfl ⟨Nat.le_of_ble_eq_true rfl, Nat.le_of_ble_eq_true rfl⟩ hl.1 rfl (Nat.le_of_ble_eq_true rfl) ⟨Nat.zero_le _, Nat.zero_le _⟩ dA_best_26 ?_
        refine lv_if_ne (tgt := 46) hx hb dA_best_29 (by decide) (fun hc7 => ?_) (fun hc7 => ?_)
        · simp only [be_lp, if_neg hc7] at K
          exact K _ (lv_sub hl [1] rfl)
        · refine lv_lload hx hb dA_best_32 (lv_at hl 1 rfl) ?_
          refine lv_lconst (v := 1) hx hb dA_best_34 (by decide) ?_
          refine lv_lsub hx hb dA_best_35 ?_
          refine lv_lload_n hx hb dA_best_36 rfl (lv_at hl 3 rfl) ?_
          refine lv_land hx hb dA_best_37 ?_
          refine jt_topl (fun x8 ex8 => ?_)
          refine lv_lstore (lv' := [(4, .long x8), (6, .int (nI (128 - (n + 1)))), (3, .int x2), (1, .long x)]) hx hb dA_best_38 hl (by decide) rfl (fun ls hl => ?_)
          refine jv_iinc (a := 1) hx hb dA_best_40 hl (k := 1) rfl (by decide) (by decide) (fun x9 ex9 ls hl => ?_)
          have hl : lv_has ls 7 [(6, .int x9), (4, .long x8), (3, .int x2), (1, .long x)] := hl
          refine lv_goto (tgt := 15) hx hb dA_best_43 (by decide) ?_
          rw [nI_up (by omega)] at ex9
          subst ex9 ex8
          simp only [be_lp, if_pos hc7] at K
          exact ih _ ls (lv_sub hl [0, 1, 2, 3] rfl) (by omega) K
  refine hloop 128 x3 ls (by have h9 := lv_sub hl [0, 1, 2, 4] rfl; subst ex4; exact h9) (by decide) (fun ls hl => ?_)
  clear hloop
  obtain ⟨y10, ey10⟩ : ∃ z, (be_lp x x2 128 x3) = z := ⟨_, rfl⟩
  rw [ey10] at hl
  refine lv_lload hx hb dA_best_46 (lv_at hl 0 rfl) ?_
  exact px_lret hx hb hr hlk dA_best_48 (by subst ey10 ex4 ex3 ex2; (try simp only [if_neg hc1]) <;> rfl)
set_option maxHeartbeats 4000000 in
set_option maxRecDepth 100000 in
theorem cA_worth (l : Launch) (g : xo_E) (T : Nat → Int64) (dk : Nat → Int32) (dn : Int32) (v : Int32) (hst : l.stackTraces = false)  : px_M l yA_worth bA_worth 3 (some .int) 7 [.ref (xo_a g), .int v] (xo_F g T dk dn) (if q_val v then .inl ex_IA else r_i (f_cat v + f_rowAt (f_cat v) (v - fi (f_cat v)))) := by
  refine vx_ofW (cc := bA_worth) (maxL := 3) (ret := (some .int)) (by decide) rfl ?_
  intro p e s m args below meth c s₁ BB hml hout hv
  obtain ⟨rfl, hB⟩ := hv
  have hx := BB.exec
  have hb := BB.bytes
  have hr := BB.returns
  have hlk := BB.notSynchronized
  have hts := atoms_spec (ws := wd yA_worth bA_worth 3 (some .int)) BB.pre
  have hown : s.vm.findClass "HandTables" = some m.cls := findClass_of_methodNamed BB.named
  have hS : CallFix p m c bA_worth 3 s _ (wd yA_worth bA_worth 3 (some .int)) "HandTables" := ⟨hx, hb, hml, hown, hts⟩
  obtain ⟨hTa, hEx, hP, hK⟩ := id hB
  obtain ⟨⟨t1, hT1⟩, ⟨t2, hT2⟩, ⟨t3, hT3⟩, ⟨t4, hT4⟩⟩ := id hTa
  have hl := lv_entry ([.ref (xo_a g), .int v]) (n := 3) (Nat.le_of_ble_eq_true rfl)
  rw [lg_entry_eq]
  generalize (lg_sl ([.ref (xo_a g), .int v]) ++ List.replicate (3 - (lg_sl ([.ref (xo_a g), .int v])).length) Slot.unset).toArray = ls at hl ⊢
  have hl : lv_has ls 3 [(0, .ref (xo_a g)), (1, .int v)] := hl
  refine lv_iload_n hx hb dA_worth_0 rfl (lv_at hl 1 rfl) ?_
  refine px_S (cA_requireValue l _ hst) rfl kA_A_requireValue hS bl_ex hEx ⟨Nat.le_of_ble_eq_true rfl, Nat.le_of_ble_eq_true rfl⟩ hl.1 rfl (Nat.le_of_ble_eq_true rfl) ⟨Nat.le_of_ble_eq_true rfl, Nat.le_of_ble_eq_true rfl⟩ dA_worth_1 hout hlk (fun E h9 => ?_) (fun v hv => ?_)
  · obtain ⟨hc1, rfl⟩ := ri_then h9
    (try simp only [if_pos hc1]) <;> rfl
  obtain ⟨hc1, rfl⟩ := ri_else hv
  refine lv_iload_n hx hb dA_worth_4 rfl (lv_at hl 1 rfl) ?_
  refine pu_S (cA_categoryOf l _) rfl kA_A_categoryOf hS bl_ta hTa rfl ⟨Nat.le_of_ble_eq_true rfl, Nat.le_of_ble_eq_true rfl⟩ hl.1 rfl (Nat.le_of_ble_eq_true rfl) ⟨Nat.zero_le _, Nat.zero_le _⟩ dA_worth_5 ?_
  refine jt_topi (fun x2 ex2 => ?_)
  refine lv_istore_n (lv' := [(2, .int x2), (0, .ref (xo_a g)), (1, .int v)]) hx hb dA_worth_8 rfl hl (by decide) rfl (fun ls hl => ?_)
  refine lv_iload_n hx hb dA_worth_9 rfl (lv_at hl 0 rfl) ?_
  refine lv_iload_n hx hb dA_worth_10 rfl (lv_at hl 0 rfl) ?_
  refine lv_iload_n hx hb dA_worth_11 rfl (lv_at hl 2 rfl) ?_
  refine ta_get hx hb hT1 hown (hts _ (wd_in (gw_mem 175 rfl rfl))) dA_worth_12 ?_
  refine lv_iload_n hx hb dA_worth_15 rfl (lv_at hl 0 rfl) ?_
  refine ta_ld hx hb hT1 (by subst_vars; exact ca_in _ (by decide) (by decide)) dA_worth_16 ?_
  refine lv_isub hx hb dA_worth_17 ?_
  refine pu_S (cA_rowAt l _ _) rfl kA_A_rowAt hS bl_ta hTa rfl ⟨Nat.le_of_ble_eq_true rfl, Nat.le_of_ble_eq_true rfl⟩ hl.1 rfl (Nat.le_of_ble_eq_true rfl) ⟨Nat.zero_le _, Nat.zero_le _⟩ dA_worth_18 ?_
  refine lv_iadd hx hb dA_worth_21 ?_
  exact px_iret hx hb hr hlk dA_worth_22 (by subst ex2; (try simp only [if_neg hc1]) <;> rfl)
set_option maxHeartbeats 4000000 in
set_option maxRecDepth 100000 in
theorem cA_sets (l : Launch) (g : xo_E) (T : Nat → Int64) (dk : Nat → Int32) (dn : Int32) (v : Int32) (hst : l.stackTraces = false)  : px_M l yA_sets bA_sets 2 (some .int) 7 [.ref (xo_a g), .int v] (xo_F g T dk dn) (if q_val v then .inl ex_IA else r_i (l_SETS.getD (f_cat v).toNatClampNeg 0)) := by
  refine vx_ofW (cc := bA_sets) (maxL := 2) (ret := (some .int)) (by decide) rfl ?_
  intro p e s m args below meth c s₁ BB hml hout hv
  obtain ⟨rfl, hB⟩ := hv
  have hx := BB.exec
  have hb := BB.bytes
  have hr := BB.returns
  have hlk := BB.notSynchronized
  have hts := atoms_spec (ws := wd yA_sets bA_sets 2 (some .int)) BB.pre
  have hown : s.vm.findClass "HandTables" = some m.cls := findClass_of_methodNamed BB.named
  have hS : CallFix p m c bA_sets 2 s _ (wd yA_sets bA_sets 2 (some .int)) "HandTables" := ⟨hx, hb, hml, hown, hts⟩
  obtain ⟨hTa, hEx, hP, hK⟩ := id hB
  obtain ⟨⟨t1, hT1⟩, ⟨t2, hT2⟩, ⟨t3, hT3⟩, ⟨t4, hT4⟩⟩ := id hTa
  have hl := lv_entry ([.ref (xo_a g), .int v]) (n := 2) (Nat.le_of_ble_eq_true rfl)
  rw [lg_entry_eq]
  generalize (lg_sl ([.ref (xo_a g), .int v]) ++ List.replicate (2 - (lg_sl ([.ref (xo_a g), .int v])).length) Slot.unset).toArray = ls at hl ⊢
  have hl : lv_has ls 2 [(0, .ref (xo_a g)), (1, .int v)] := hl
  refine lv_iload_n hx hb dA_sets_0 rfl (lv_at hl 1 rfl) ?_
  refine px_S (cA_requireValue l _ hst) rfl kA_A_requireValue hS bl_ex hEx ⟨Nat.le_of_ble_eq_true rfl, Nat.le_of_ble_eq_true rfl⟩ hl.1 rfl (Nat.le_of_ble_eq_true rfl) ⟨Nat.le_of_ble_eq_true rfl, Nat.le_of_ble_eq_true rfl⟩ dA_sets_1 hout hlk (fun E h9 => ?_) (fun v hv => ?_)
  · obtain ⟨hc1, rfl⟩ := ri_then h9
    (try simp only [if_pos hc1]) <;> rfl
  obtain ⟨hc1, rfl⟩ := ri_else hv
  refine ta_get hx hb hT2 hown (hts _ (wd_in (gw_mem 259 rfl rfl))) dA_sets_4 ?_
  refine lv_iload_n hx hb dA_sets_7 rfl (lv_at hl 1 rfl) ?_
  refine pu_S (cA_categoryOf l _) rfl kA_A_categoryOf hS bl_ta hTa rfl ⟨Nat.le_of_ble_eq_true rfl, Nat.le_of_ble_eq_true rfl⟩ hl.1 rfl (Nat.le_of_ble_eq_true rfl) ⟨Nat.zero_le _, Nat.zero_le _⟩ dA_sets_8 ?_
  refine ta_ld hx hb hT2 (ca_in _ (by decide) (by decide)) dA_sets_11 ?_
  exact px_iret hx hb hr hlk dA_sets_12 (by (try simp only [if_neg hc1]) <;> rfl)
set_option maxHeartbeats 4000000 in
set_option maxRecDepth 100000 in
theorem cA_first (l : Launch) (g : xo_E) (T : Nat → Int64) (dk : Nat → Int32) (dn : Int32) (k : Int32) (hst : l.stackTraces = false)  : px_M l yA_first bA_first 2 (some .int) 7 [.ref (xo_a g), .int k] (xo_F g T dk dn) (if k < 0 then .inl ex_IA else if k ≤ 9 then r_i (fi k) else .inl ex_IA) := by
  refine vx_ofW (cc := bA_first) (maxL := 2) (ret := (some .int)) (by decide) rfl ?_
  intro p e s m args below meth c s₁ BB hml hout hv
  obtain ⟨rfl, hB⟩ := hv
  have hx := BB.exec
  have hb := BB.bytes
  have hr := BB.returns
  have hlk := BB.notSynchronized
  have hts := atoms_spec (ws := wd yA_first bA_first 2 (some .int)) BB.pre
  have hown : s.vm.findClass "HandTables" = some m.cls := findClass_of_methodNamed BB.named
  have hS : CallFix p m c bA_first 2 s _ (wd yA_first bA_first 2 (some .int)) "HandTables" := ⟨hx, hb, hml, hown, hts⟩
  obtain ⟨hTa, hEx, hP, hK⟩ := id hB
  obtain ⟨⟨t1, hT1⟩, ⟨t2, hT2⟩, ⟨t3, hT3⟩, ⟨t4, hT4⟩⟩ := id hTa
  have hl := lv_entry ([.ref (xo_a g), .int k]) (n := 2) (Nat.le_of_ble_eq_true rfl)
  rw [lg_entry_eq]
  generalize (lg_sl ([.ref (xo_a g), .int k]) ++ List.replicate (2 - (lg_sl ([.ref (xo_a g), .int k])).length) Slot.unset).toArray = ls at hl ⊢
  have hl : lv_has ls 2 [(0, .ref (xo_a g)), (1, .int k)] := hl
  refine lv_iload_n hx hb dA_first_0 rfl (lv_at hl 1 rfl) ?_
  refine lv_if_lt (tgt := 10) hx hb dA_first_1 (by decide) (fun hc1 => ?_) (fun hc1 => ?_)
  · exact px_throw (cls := ex_IA) (text := "no such category") hx hb hst hown hts hEx (by decide +kernel) (gw_mem 97 rfl rfl) (gw_mem 33 rfl rfl) (by decide) at_IA an_IA ag_IA (by rw [hml]; exact hl.1) dA_first_10 dA_first_13 dA_first_14 dA_first_16 dA_first_19 hout (Nat.le_of_ble_eq_true rfl) (Nat.le_of_ble_eq_true rfl) (Nat.le_of_ble_eq_true rfl) (Nat.le_of_ble_eq_true rfl) hlk (by (try simp only [if_pos hc1]) <;> rfl)
  · refine lv_iload_n hx hb dA_first_4 rfl (lv_at hl 1 rfl) ?_
    refine lv_bipush (v := 9) hx hb dA_first_5 (by decide) ?_
    refine lv_icmp_le (tgt := 20) hx hb dA_first_7 (by decide) (fun hc2 => ?_) (fun hc2 => ?_)
    · refine ta_get hx hb hT1 hown (hts _ (wd_in (gw_mem 175 rfl rfl))) dA_first_20 ?_
      refine lv_iload_n hx hb dA_first_23 rfl (lv_at hl 1 rfl) ?_
      refine ta_ld hx hb hT1 (fr_in hc1 hc2) dA_first_24 ?_
      exact px_iret hx hb hr hlk dA_first_25 (by (try simp only [if_neg hc1, if_pos hc2]) <;> rfl)
    · exact px_throw (cls := ex_IA) (text := "no such category") hx hb hst hown hts hEx (by decide +kernel) (gw_mem 97 rfl rfl) (gw_mem 33 rfl rfl) (by decide) at_IA an_IA ag_IA (by rw [hml]; exact hl.1) dA_first_10 dA_first_13 dA_first_14 dA_first_16 dA_first_19 hout (Nat.le_of_ble_eq_true rfl) (Nat.le_of_ble_eq_true rfl) (Nat.le_of_ble_eq_true rfl) (Nat.le_of_ble_eq_true rfl) hlk (by (try simp only [if_neg hc1, if_neg hc2]) <;> rfl)
set_option maxHeartbeats 4000000 in
set_option maxRecDepth 100000 in
theorem cA_cards (l : Launch) (g : xo_E) (T : Nat → Int64) (dk : Nat → Int32) (dn : Int32) (k : Int32) (hst : l.stackTraces = false)  : px_M l yA_cards bA_cards 2 (some .long) 7 [.ref (xo_a g), .int k] (xo_F g T dk dn) (if k = 6 then r_l (T k.toNatClampNeg) else if q_seat k then .inl ex_IO else r_l (T k.toNatClampNeg)) := by
  refine vx_ofW (cc := bA_cards) (maxL := 2) (ret := (some .long)) (by decide) rfl ?_
  intro p e s m args below meth c s₁ BB hml hout hv
  obtain ⟨rfl, hB⟩ := hv
  have hx := BB.exec
  have hb := BB.bytes
  have hr := BB.returns
  have hlk := BB.notSynchronized
  have hts := atoms_spec (ws := wd yA_cards bA_cards 2 (some .long)) BB.pre
  have hown : s.vm.findClass "HandTables" = some m.cls := findClass_of_methodNamed BB.named
  have hS : CallFix p m c bA_cards 2 s _ (wd yA_cards bA_cards 2 (some .long)) "HandTables" := ⟨hx, hb, hml, hown, hts⟩
  obtain ⟨hTa, hEx, hP, hK⟩ := id hB
  obtain ⟨⟨t1, hT1⟩, ⟨t2, hT2⟩, ⟨t3, hT3⟩, ⟨t4, hT4⟩⟩ := id hTa
  have hl := lv_entry ([.ref (xo_a g), .int k]) (n := 2) (Nat.le_of_ble_eq_true rfl)
  rw [lg_entry_eq]
  generalize (lg_sl ([.ref (xo_a g), .int k]) ++ List.replicate (2 - (lg_sl ([.ref (xo_a g), .int k])).length) Slot.unset).toArray = ls at hl ⊢
  have hl : lv_has ls 2 [(0, .ref (xo_a g)), (1, .int k)] := hl
  refine lv_iload_n hx hb dA_cards_0 rfl (lv_at hl 1 rfl) ?_
  refine lv_bipush (v := 6) hx hb dA_cards_1 (by decide) ?_
  refine lv_icmp_eq (tgt := 10) hx hb dA_cards_3 (by decide) (fun hc1 => ?_) (fun hc1 => ?_)
  · refine lv_aload_n hx hb dA_cards_10 rfl (lv_at hl 0 rfl) ?_
    refine va_get (D := g.1) (ci := 0) (v := .ref (xo_t g)) (C := "HandTables") (T := T_A) (N := 3) hx hb hts (fun w hw => wd_in (u_inA w hw)) hown hK hP 0 rfl rfl 0 (by decide) (hts _ (wd_in (gw_mem 49 rfl rfl))) (fun _ h => h) rfl dA_cards_11 ?_
    refine lv_iload_n hx hb dA_cards_14 rfl (lv_at hl 1 rfl) ?_
    refine va_lald hx hb hK hP 1 0 rfl rfl (by rw [hc1]; unfold vp_in; decide) dA_cards_15 ?_
    exact px_lret hx hb hr hlk dA_cards_16 (by (try simp only [if_pos hc1]) <;> rfl)
  · refine lv_iload_n hx hb dA_cards_6 rfl (lv_at hl 1 rfl) ?_
    refine px_S (cA_requireSeat l _ hst) rfl kA_A_requireSeat hS bl_ex hEx ⟨Nat.le_of_ble_eq_true rfl, Nat.le_of_ble_eq_true rfl⟩ hl.1 rfl (Nat.le_of_ble_eq_true rfl) ⟨Nat.le_of_ble_eq_true rfl, Nat.le_of_ble_eq_true rfl⟩ dA_cards_7 hout hlk (fun E h9 => ?_) (fun v hv => ?_)
    · obtain ⟨hc2, rfl⟩ := ri_then h9
      (try simp only [if_neg hc1, if_pos hc2]) <;> rfl
    obtain ⟨hc2, rfl⟩ := ri_else hv
    refine lv_aload_n hx hb dA_cards_10 rfl (lv_at hl 0 rfl) ?_
    refine va_get (D := g.1) (ci := 0) (v := .ref (xo_t g)) (C := "HandTables") (T := T_A) (N := 3) hx hb hts (fun w hw => wd_in (u_inA w hw)) hown hK hP 0 rfl rfl 0 (by decide) (hts _ (wd_in (gw_mem 49 rfl rfl))) (fun _ h => h) rfl dA_cards_11 ?_
    refine lv_iload_n hx hb dA_cards_14 rfl (lv_at hl 1 rfl) ?_
    refine va_lald hx hb hK hP 1 0 rfl rfl (se_in hc2) dA_cards_15 ?_
    exact px_lret hx hb hr hlk dA_cards_16 (by (try simp only [if_neg hc1, if_neg hc2]) <;> rfl)
set_option maxHeartbeats 4000000 in
set_option maxRecDepth 100000 in
theorem cA_hand (l : Launch) (g : xo_E) (T : Nat → Int64) (dk : Nat → Int32) (dn : Int32) (k : Int32) (hst : l.stackTraces = false)  : px_M l yA_hand bA_hand 2 (some .int) 7 [.ref (xo_a g), .int k] (xo_F g T dk dn) (if q_seat k then .inl ex_IO else if T k.toNatClampNeg = 0 then .inl ex_IS else if g_bs T < 3 then .inl ex_IS else r_i (f_valueOf (T k.toNatClampNeg ||| T (6 : Int32).toNatClampNeg))) := by
  refine vx_ofW (cc := bA_hand) (maxL := 2) (ret := (some .int)) (by decide) rfl ?_
  intro p e s m args below meth c s₁ BB hml hout hv
  obtain ⟨rfl, hB⟩ := hv
  have hx := BB.exec
  have hb := BB.bytes
  have hr := BB.returns
  have hlk := BB.notSynchronized
  have hts := atoms_spec (ws := wd yA_hand bA_hand 2 (some .int)) BB.pre
  have hown : s.vm.findClass "HandTables" = some m.cls := findClass_of_methodNamed BB.named
  have hS : CallFix p m c bA_hand 2 s _ (wd yA_hand bA_hand 2 (some .int)) "HandTables" := ⟨hx, hb, hml, hown, hts⟩
  obtain ⟨hTa, hEx, hP, hK⟩ := id hB
  obtain ⟨⟨t1, hT1⟩, ⟨t2, hT2⟩, ⟨t3, hT3⟩, ⟨t4, hT4⟩⟩ := id hTa
  have hl := lv_entry ([.ref (xo_a g), .int k]) (n := 2) (Nat.le_of_ble_eq_true rfl)
  rw [lg_entry_eq]
  generalize (lg_sl ([.ref (xo_a g), .int k]) ++ List.replicate (2 - (lg_sl ([.ref (xo_a g), .int k])).length) Slot.unset).toArray = ls at hl ⊢
  have hl : lv_has ls 2 [(0, .ref (xo_a g)), (1, .int k)] := hl
  refine lv_iload_n hx hb dA_hand_0 rfl (lv_at hl 1 rfl) ?_
  refine px_S (cA_requireSeat l _ hst) rfl kA_A_requireSeat hS bl_ex hEx ⟨Nat.le_of_ble_eq_true rfl, Nat.le_of_ble_eq_true rfl⟩ hl.1 rfl (Nat.le_of_ble_eq_true rfl) ⟨Nat.le_of_ble_eq_true rfl, Nat.le_of_ble_eq_true rfl⟩ dA_hand_1 hout hlk (fun E h9 => ?_) (fun v hv => ?_)
  · obtain ⟨hc1, rfl⟩ := ri_then h9
    (try simp only [if_pos hc1]) <;> rfl
  obtain ⟨hc1, rfl⟩ := ri_else hv
  refine lv_aload_n hx hb dA_hand_4 rfl (lv_at hl 0 rfl) ?_
  refine lv_iload_n hx hb dA_hand_5 rfl (lv_at hl 1 rfl) ?_
  refine px_V (cA_requireTaken l g T dk dn _ hst (se_in (by assumption))) rfl kA_A_requireTaken hS bl_xo hB (xo_rc hB) ⟨Nat.le_of_ble_eq_true rfl, Nat.le_of_ble_eq_true rfl⟩ hl.1 rfl (Nat.le_of_ble_eq_true rfl) ⟨Nat.le_of_ble_eq_true rfl, Nat.le_of_ble_eq_true rfl⟩ dA_hand_6 hout hlk (fun E h9 => ?_) (fun v hv => ?_)
  · obtain ⟨hc2, rfl⟩ := ri_then h9
    (try simp only [if_neg hc1, if_pos hc2]) <;> rfl
  obtain ⟨hc2, rfl⟩ := ri_else hv
  refine lv_aload_n hx hb dA_hand_9 rfl (lv_at hl 0 rfl) ?_
  refine px_V (cA_requireThreeOnBoard l g T dk dn  hst) rfl kA_A_requireThreeOnBoard hS bl_xo hB (xo_rc hB) ⟨Nat.le_of_ble_eq_true rfl, Nat.le_of_ble_eq_true rfl⟩ hl.1 rfl (Nat.le_of_ble_eq_true rfl) ⟨Nat.le_of_ble_eq_true rfl, Nat.le_of_ble_eq_true rfl⟩ dA_hand_10 hout hlk (fun E h9 => ?_) (fun v hv => ?_)
  · obtain ⟨hc3, rfl⟩ := ri_then h9
    (try simp only [if_neg hc1, if_neg hc2, if_pos hc3]) <;> rfl
  obtain ⟨hc3, rfl⟩ := ri_else hv
  refine lv_aload_n hx hb dA_hand_13 rfl (lv_at hl 0 rfl) ?_
  refine va_get (D := g.1) (ci := 0) (v := .ref (xo_t g)) (C := "HandTables") (T := T_A) (N := 3) hx hb hts (fun w hw => wd_in (u_inA w hw)) hown hK hP 0 rfl rfl 0 (by decide) (hts _ (wd_in (gw_mem 49 rfl rfl))) (fun _ h => h) rfl dA_hand_14 ?_
  refine lv_iload_n hx hb dA_hand_17 rfl (lv_at hl 1 rfl) ?_
  refine va_lald hx hb hK hP 1 0 rfl rfl (se_in hc1) dA_hand_18 ?_
  refine lv_aload_n hx hb dA_hand_19 rfl (lv_at hl 0 rfl) ?_
  refine va_get (D := g.1) (ci := 0) (v := .ref (xo_t g)) (C := "HandTables") (T := T_A) (N := 3) hx hb hts (fun w hw => wd_in (u_inA w hw)) hown hK hP 0 rfl rfl 0 (by decide) (hts _ (wd_in (gw_mem 49 rfl rfl))) (fun _ h => h) rfl dA_hand_20 ?_
  refine lv_bipush (v := 6) hx hb dA_hand_23 (by decide) ?_
  refine va_lald hx hb hK hP 1 0 rfl rfl (by unfold vp_in; decide) dA_hand_25 ?_
  refine lv_lor hx hb dA_hand_26 ?_
  refine pu_S (cA_valueOf l _) rfl kA_A_valueOf hS bl_ta hTa rfl ⟨Nat.le_of_ble_eq_true rfl, Nat.le_of_ble_eq_true rfl⟩ hl.1 rfl (Nat.le_of_ble_eq_true rfl) ⟨Nat.zero_le _, Nat.zero_le _⟩ dA_hand_27 ?_
  exact px_iret hx hb hr hlk dA_hand_30 (by (try simp only [if_neg hc1, if_neg hc2, if_neg hc3]) <;> rfl)
set_option maxHeartbeats 4000000 in
set_option maxRecDepth 100000 in
theorem cA_ahead (l : Launch) (g : xo_E) (T : Nat → Int64) (dk : Nat → Int32) (dn : Int32)  (hst : l.stackTraces = false)  : px_M l yA_ahead bA_ahead 2 (some .int) 7 [.ref (xo_a g)] (xo_F g T dk dn) (if g_bs T < 3 then .inl ex_IS else if g_lead T (T (6 : Int32).toNatClampNeg) = 0 then .inl ex_IS else r_i (g_lead T (T (6 : Int32).toNatClampNeg))) := by
  refine vx_ofW (cc := bA_ahead) (maxL := 2) (ret := (some .int)) (by decide) rfl ?_
  intro p e s m args below meth c s₁ BB hml hout hv
  obtain ⟨rfl, hB⟩ := hv
  have hx := BB.exec
  have hb := BB.bytes
  have hr := BB.returns
  have hlk := BB.notSynchronized
  have hts := atoms_spec (ws := wd yA_ahead bA_ahead 2 (some .int)) BB.pre
  have hown : s.vm.findClass "HandTables" = some m.cls := findClass_of_methodNamed BB.named
  have hS : CallFix p m c bA_ahead 2 s _ (wd yA_ahead bA_ahead 2 (some .int)) "HandTables" := ⟨hx, hb, hml, hown, hts⟩
  obtain ⟨hTa, hEx, hP, hK⟩ := id hB
  obtain ⟨⟨t1, hT1⟩, ⟨t2, hT2⟩, ⟨t3, hT3⟩, ⟨t4, hT4⟩⟩ := id hTa
  have hl := lv_entry ([.ref (xo_a g)]) (n := 2) (Nat.le_of_ble_eq_true rfl)
  rw [lg_entry_eq]
  generalize (lg_sl ([.ref (xo_a g)]) ++ List.replicate (2 - (lg_sl ([.ref (xo_a g)])).length) Slot.unset).toArray = ls at hl ⊢
  have hl : lv_has ls 2 [(0, .ref (xo_a g))] := hl
  refine lv_aload_n hx hb dA_ahead_0 rfl (lv_at hl 0 rfl) ?_
  refine px_V (cA_requireThreeOnBoard l g T dk dn  hst) rfl kA_A_requireThreeOnBoard hS bl_xo hB (xo_rc hB) ⟨Nat.le_of_ble_eq_true rfl, Nat.le_of_ble_eq_true rfl⟩ hl.1 rfl (Nat.le_of_ble_eq_true rfl) ⟨Nat.le_of_ble_eq_true rfl, Nat.le_of_ble_eq_true rfl⟩ dA_ahead_1 hout hlk (fun E h9 => ?_) (fun v hv => ?_)
  · obtain ⟨hc1, rfl⟩ := ri_then h9
    (try simp only [if_pos hc1]) <;> rfl
  obtain ⟨hc1, rfl⟩ := ri_else hv
  refine lv_aload_n hx hb dA_ahead_4 rfl (lv_at hl 0 rfl) ?_
  refine va_get (D := g.1) (ci := 0) (v := .ref (xo_t g)) (C := "HandTables") (T := T_A) (N := 3) hx hb hts (fun w hw => wd_in (u_inA w hw)) hown hK hP 0 rfl rfl 0 (by decide) (hts _ (wd_in (gw_mem 49 rfl rfl))) (fun _ h => h) rfl dA_ahead_5 ?_
  refine lv_aload_n hx hb dA_ahead_8 rfl (lv_at hl 0 rfl) ?_
  refine va_get (D := g.1) (ci := 0) (v := .ref (xo_t g)) (C := "HandTables") (T := T_A) (N := 3) hx hb hts (fun w hw => wd_in (u_inA w hw)) hown hK hP 0 rfl rfl 0 (by decide) (hts _ (wd_in (gw_mem 49 rfl rfl))) (fun _ h => h) rfl dA_ahead_9 ?_
  refine lv_bipush (v := 6) hx hb dA_ahead_12 (by decide) ?_
  refine va_lald hx hb hK hP 1 0 rfl rfl (by unfold vp_in; decide) dA_ahead_14 ?_
  refine pu_S (cA_leadersOn l g T dk dn _) rfl kA_A_leadersOn hS bl_xo hB rfl ⟨Nat.le_of_ble_eq_true rfl, Nat.le_of_ble_eq_true rfl⟩ hl.1 rfl (Nat.le_of_ble_eq_true rfl) ⟨Nat.zero_le _, Nat.zero_le _⟩ dA_ahead_15 ?_
  refine jt_topi (fun x2 ex2 => ?_)
  refine lv_istore_n (lv' := [(1, .int x2), (0, .ref (xo_a g))]) hx hb dA_ahead_18 rfl hl (by decide) rfl (fun ls hl => ?_)
  refine lv_iload_n hx hb dA_ahead_19 rfl (lv_at hl 0 rfl) ?_
  refine lv_if_ne (tgt := 33) hx hb dA_ahead_20 (by decide) (fun hc3 => ?_) (fun hc3 => ?_)
  · refine lv_iload_n hx hb dA_ahead_33 rfl (lv_at hl 0 rfl) ?_
    exact px_iret hx hb hr hlk dA_ahead_34 (by subst ex2; (try simp only [if_neg hc1, if_neg hc3]) <;> rfl)
  · exact px_throw (cls := ex_IS) (text := "all seats are empty") hx hb hst hown hts hEx (by decide +kernel) (gw_mem 341 rfl rfl) (gw_mem 35 rfl rfl) (by decide) at_IS an_IS ag_IS (by rw [hml]; exact hl.1) dA_ahead_23 dA_ahead_26 dA_ahead_27 dA_ahead_29 dA_ahead_32 hout (Nat.le_of_ble_eq_true rfl) (Nat.le_of_ble_eq_true rfl) (Nat.le_of_ble_eq_true rfl) (Nat.le_of_ble_eq_true rfl) hlk (by subst ex2; (try simp only [if_neg hc1, if_pos hc3]) <;> rfl)
set_option maxHeartbeats 4000000 in
set_option maxRecDepth 100000 in
theorem cA_boards (l : Launch) (g : xo_E) (T : Nat → Int64) (dk : Nat → Int32) (dn : Int32)  (hst : l.stackTraces = false)  : px_M l yA_boards bA_boards 2 (some .int) 7 [.ref (xo_a g)] (xo_F g T dk dn) (if g_bs T < 3 then .inl ex_IS else r_i (g_boards (5 - g_bs T) (f_bc (g_free T)))) := by
  refine vx_ofW (cc := bA_boards) (maxL := 2) (ret := (some .int)) (by decide) rfl ?_
  intro p e s m args below meth c s₁ BB hml hout hv
  obtain ⟨rfl, hB⟩ := hv
  have hx := BB.exec
  have hb := BB.bytes
  have hr := BB.returns
  have hlk := BB.notSynchronized
  have hts := atoms_spec (ws := wd yA_boards bA_boards 2 (some .int)) BB.pre
  have hown : s.vm.findClass "HandTables" = some m.cls := findClass_of_methodNamed BB.named
  have hS : CallFix p m c bA_boards 2 s _ (wd yA_boards bA_boards 2 (some .int)) "HandTables" := ⟨hx, hb, hml, hown, hts⟩
  obtain ⟨hTa, hEx, hP, hK⟩ := id hB
  obtain ⟨⟨t1, hT1⟩, ⟨t2, hT2⟩, ⟨t3, hT3⟩, ⟨t4, hT4⟩⟩ := id hTa
  have hl := lv_entry ([.ref (xo_a g)]) (n := 2) (Nat.le_of_ble_eq_true rfl)
  rw [lg_entry_eq]
  generalize (lg_sl ([.ref (xo_a g)]) ++ List.replicate (2 - (lg_sl ([.ref (xo_a g)])).length) Slot.unset).toArray = ls at hl ⊢
  have hl : lv_has ls 2 [(0, .ref (xo_a g))] := hl
  refine lv_aload_n hx hb dA_boards_0 rfl (lv_at hl 0 rfl) ?_
  refine px_V (cA_requireThreeOnBoard l g T dk dn  hst) rfl kA_A_requireThreeOnBoard hS bl_xo hB (xo_rc hB) ⟨Nat.le_of_ble_eq_true rfl, Nat.le_of_ble_eq_true rfl⟩ hl.1 rfl (Nat.le_of_ble_eq_true rfl) ⟨Nat.le_of_ble_eq_true rfl, Nat.le_of_ble_eq_true rfl⟩ dA_boards_1 hout hlk (fun E h9 => ?_) (fun v hv => ?_)
  · obtain ⟨hc1, rfl⟩ := ri_then h9
    (try simp only [g_boards, if_pos hc1]) <;> rfl
  obtain ⟨hc1, rfl⟩ := ri_else hv
  refine lv_aload_n hx hb dA_boards_4 rfl (lv_at hl 0 rfl) ?_
  refine pu_V (cA_free l g T dk dn ) rfl kA_A_free hS bl_xo hB rfl (xo_rc hB) ⟨Nat.le_of_ble_eq_true rfl, Nat.le_of_ble_eq_true rfl⟩ hl.1 rfl (Nat.le_of_ble_eq_true rfl) ⟨Nat.zero_le _, Nat.zero_le _⟩ dA_boards_5 ?_
  refine pu_S (cJ_bitCount l _) rfl kA_J_bitCount hS bl_T trivial rfl ⟨Nat.le_of_ble_eq_true rfl, Nat.le_of_ble_eq_true rfl⟩ hl.1 rfl (Nat.le_of_ble_eq_true rfl) ⟨Nat.zero_le _, Nat.zero_le _⟩ dA_boards_8 ?_
  refine jt_topi (fun x2 ex2 => ?_)
  refine lv_istore_n (lv' := [(1, .int x2), (0, .ref (xo_a g))]) hx hb dA_boards_11 rfl hl (by decide) rfl (fun ls hl => ?_)
  refine lv_aload_n hx hb dA_boards_12 rfl (lv_at hl 1 rfl) ?_
  refine pu_V (cA_missing l g T dk dn ) rfl kA_A_missing hS bl_xo hB rfl (xo_rc hB) ⟨Nat.le_of_ble_eq_true rfl, Nat.le_of_ble_eq_true rfl⟩ hl.1 rfl (Nat.le_of_ble_eq_true rfl) ⟨Nat.zero_le _, Nat.zero_le _⟩ dA_boards_13 ?_
  by_cases hc3 : 5 - g_bs T = 0
  · refine lv_lookup (off := 28) (tgt := 44) hx hb dA_boards_16 (by decide) (by rw [hc3]; rfl) (by decide) ?_
    refine lv_iconst (v := 1) hx hb dA_boards_44 (by decide) ?_
    exact px_iret hx hb hr hlk dA_boards_45 (by subst ex2; (try simp only [g_boards, if_neg hc1, if_pos hc3]) <;> rfl)
  by_cases hc4 : 5 - g_bs T = 1
  · refine lv_lookup (off := 30) (tgt := 46) hx hb dA_boards_16 (by decide) (by rw [hc4]; rfl) (by decide) ?_
    refine lv_iload_n hx hb dA_boards_46 rfl (lv_at hl 0 rfl) ?_
    exact px_iret hx hb hr hlk dA_boards_47 (by subst ex2; (try simp only [g_boards, if_neg hc1, if_neg hc3, if_pos hc4]) <;> rfl)
  refine lv_lookup (off := 32) (tgt := 48) hx hb dA_boards_16 (by decide) ((lv_osw hc3 rfl).trans <| (lv_osw hc4 rfl).trans <| rfl) (by decide) ?_
  refine lv_iload_n hx hb dA_boards_48 rfl (lv_at hl 0 rfl) ?_
  refine lv_iload_n hx hb dA_boards_49 rfl (lv_at hl 0 rfl) ?_
  refine lv_iconst (v := 1) hx hb dA_boards_50 (by decide) ?_
  refine lv_isub hx hb dA_boards_51 ?_
  refine lv_imul hx hb dA_boards_52 ?_
  refine lv_iconst (v := 2) hx hb dA_boards_53 (by decide) ?_
  refine lv_idiv hx hb dA_boards_54 (by decide) ?_
  exact px_iret hx hb hr hlk dA_boards_55 (by subst ex2; (try simp only [g_boards, if_neg hc1, if_neg hc3, if_neg hc4]) <;> rfl)
set_option maxHeartbeats 4000000 in
set_option maxRecDepth 100000 in
theorem cA_outs (l : Launch) (g : xo_E) (T : Nat → Int64) (dk : Nat → Int32) (dn : Int32) (k : Int32) (hst : l.stackTraces = false)  : px_M l yA_outs bA_outs 9 (some .long) 7 [.ref (xo_a g), .int k] (xo_F g T dk dn) (if q_seat k then .inl ex_IO else if T k.toNatClampNeg = 0 then .inl ex_IS else if g_bs T < 3 then .inl ex_IS else if 5 - g_bs T = 0 then .inl ex_IS else r_l (g_outs T k)) := by
  refine vx_ofW (cc := bA_outs) (maxL := 9) (ret := (some .long)) (by decide) rfl ?_
  intro p e s m args below meth c s₁ BB hml hout hv
  obtain ⟨rfl, hB⟩ := hv
  have hx := BB.exec
  have hb := BB.bytes
  have hr := BB.returns
  have hlk := BB.notSynchronized
  have hts := atoms_spec (ws := wd yA_outs bA_outs 9 (some .long)) BB.pre
  have hown : s.vm.findClass "HandTables" = some m.cls := findClass_of_methodNamed BB.named
  have hS : CallFix p m c bA_outs 9 s _ (wd yA_outs bA_outs 9 (some .long)) "HandTables" := ⟨hx, hb, hml, hown, hts⟩
  obtain ⟨hTa, hEx, hP, hK⟩ := id hB
  obtain ⟨⟨t1, hT1⟩, ⟨t2, hT2⟩, ⟨t3, hT3⟩, ⟨t4, hT4⟩⟩ := id hTa
  have hl := lv_entry ([.ref (xo_a g), .int k]) (n := 9) (Nat.le_of_ble_eq_true rfl)
  rw [lg_entry_eq]
  generalize (lg_sl ([.ref (xo_a g), .int k]) ++ List.replicate (9 - (lg_sl ([.ref (xo_a g), .int k])).length) Slot.unset).toArray = ls at hl ⊢
  have hl : lv_has ls 9 [(0, .ref (xo_a g)), (1, .int k)] := hl
  refine lv_iload_n hx hb dA_outs_0 rfl (lv_at hl 1 rfl) ?_
  refine px_S (cA_requireSeat l _ hst) rfl kA_A_requireSeat hS bl_ex hEx ⟨Nat.le_of_ble_eq_true rfl, Nat.le_of_ble_eq_true rfl⟩ hl.1 rfl (Nat.le_of_ble_eq_true rfl) ⟨Nat.le_of_ble_eq_true rfl, Nat.le_of_ble_eq_true rfl⟩ dA_outs_1 hout hlk (fun E h9 => ?_) (fun v hv => ?_)
  · obtain ⟨hc1, rfl⟩ := ri_then h9
    (try simp only [if_pos hc1]) <;> rfl
  obtain ⟨hc1, rfl⟩ := ri_else hv
  refine lv_aload_n hx hb dA_outs_4 rfl (lv_at hl 0 rfl) ?_
  refine lv_iload_n hx hb dA_outs_5 rfl (lv_at hl 1 rfl) ?_
  refine px_V (cA_requireTaken l g T dk dn _ hst (se_in (by assumption))) rfl kA_A_requireTaken hS bl_xo hB (xo_rc hB) ⟨Nat.le_of_ble_eq_true rfl, Nat.le_of_ble_eq_true rfl⟩ hl.1 rfl (Nat.le_of_ble_eq_true rfl) ⟨Nat.le_of_ble_eq_true rfl, Nat.le_of_ble_eq_true rfl⟩ dA_outs_6 hout hlk (fun E h9 => ?_) (fun v hv => ?_)
  · obtain ⟨hc2, rfl⟩ := ri_then h9
    (try simp only [if_neg hc1, if_pos hc2]) <;> rfl
  obtain ⟨hc2, rfl⟩ := ri_else hv
  refine lv_aload_n hx hb dA_outs_9 rfl (lv_at hl 0 rfl) ?_
  refine px_V (cA_requireThreeOnBoard l g T dk dn  hst) rfl kA_A_requireThreeOnBoard hS bl_xo hB (xo_rc hB) ⟨Nat.le_of_ble_eq_true rfl, Nat.le_of_ble_eq_true rfl⟩ hl.1 rfl (Nat.le_of_ble_eq_true rfl) ⟨Nat.le_of_ble_eq_true rfl, Nat.le_of_ble_eq_true rfl⟩ dA_outs_10 hout hlk (fun E h9 => ?_) (fun v hv => ?_)
  · obtain ⟨hc3, rfl⟩ := ri_then h9
    (try simp only [if_neg hc1, if_neg hc2, if_pos hc3]) <;> rfl
  obtain ⟨hc3, rfl⟩ := ri_else hv
  refine lv_aload_n hx hb dA_outs_13 rfl (lv_at hl 0 rfl) ?_
  refine pu_V (cA_missing l g T dk dn ) rfl kA_A_missing hS bl_xo hB rfl (xo_rc hB) ⟨Nat.le_of_ble_eq_true rfl, Nat.le_of_ble_eq_true rfl⟩ hl.1 rfl (Nat.le_of_ble_eq_true rfl) ⟨Nat.zero_le _, Nat.zero_le _⟩ dA_outs_14 ?_
  refine lv_if_ne (tgt := 30) hx hb dA_outs_17 (by decide) (fun hc4 => ?_) (fun hc4 => ?_)
  · refine lv_aload_n hx hb dA_outs_30 rfl (lv_at hl 0 rfl) ?_
    refine pu_V (cA_free l g T dk dn ) rfl kA_A_free hS bl_xo hB rfl (xo_rc hB) ⟨Nat.le_of_ble_eq_true rfl, Nat.le_of_ble_eq_true rfl⟩ hl.1 rfl (Nat.le_of_ble_eq_true rfl) ⟨Nat.zero_le _, Nat.zero_le _⟩ dA_outs_31 ?_
    refine jt_topl (fun x5 ex5 => ?_)
    refine lv_lstore_n (lv' := [(2, .long x5), (0, .ref (xo_a g)), (1, .int k)]) hx hb dA_outs_34 rfl hl (by decide) rfl (fun ls hl => ?_)
    refine lv_lconst (v := 0) hx hb dA_outs_35 (by decide) ?_
    refine jt_topl (fun x6 ex6 => ?_)
    refine lv_lstore (lv' := [(4, .long x6), (2, .long x5), (0, .ref (xo_a g)), (1, .int k)]) hx hb dA_outs_36 hl (by decide) rfl (fun ls hl => ?_)
    refine lv_iconst (v := 0) hx hb dA_outs_38 (by decide) ?_
    refine jt_topi (fun x7 ex7 => ?_)
    refine lv_istore (lv' := [(6, .int x7), (4, .long x6), (2, .long x5), (0, .ref (xo_a g)), (1, .int k)]) hx hb dA_outs_39 hl (by decide) rfl (fun ls hl => ?_)
    have hloop : ∀ (n : Nat) (a : Int64) (ls : Array Slot), lv_has ls 9 [(6, .int (nI (52 - n))), (4, .long a), (2, .long x5), (0, .ref (xo_a g)), (1, .int k)] → (n ≤ 52) → (∀ ls : Array Slot, lv_has ls 9 [(4, .long (ou_lp T x5 k n a))] → W p l e (headSpec (wd yA_outs bA_outs 9 (some .long)) (rmD 7 1 6)).room s m ([.ref (xo_a g), .int k]).toArray below meth c s.heap [] 0 0 (vx_MQ below (px_Q (if q_seat k then .inl ex_IO else if T k.toNatClampNeg = 0 then .inl ex_IS else if g_bs T < 3 then .inl ex_IS else if 5 - g_bs T = 0 then .inl ex_IS else r_l (g_outs T k))) (px_X (if q_seat k then .inl ex_IO else if T k.toNatClampNeg = 0 then .inl ex_IS else if g_bs T < 3 then .inl ex_IS else if 5 - g_bs T = 0 then .inl ex_IS else r_l (g_outs T k))) ([.ref (xo_a g), .int k]).toArray s 1 6 (fun _ => False)) (F0 m 99 ls [])) → W p l e (headSpec (wd yA_outs bA_outs 9 (some .long)) (rmD 7 1 6)).room s m ([.ref (xo_a g), .int k]).toArray below meth c s.heap [] 0 0 (vx_MQ below (px_Q (if q_seat k then .inl ex_IO else if T k.toNatClampNeg = 0 then .inl ex_IS else if g_bs T < 3 then .inl ex_IS else if 5 - g_bs T = 0 then .inl ex_IS else r_l (g_outs T k))) (px_X (if q_seat k then .inl ex_IO else if T k.toNatClampNeg = 0 then .inl ex_IS else if g_bs T < 3 then .inl ex_IS else if 5 - g_bs T = 0 then .inl ex_IS else r_l (g_outs T k))) ([.ref (xo_a g), .int k]).toArray s 1 6 (fun _ => False)) (F0 m 41 ls []) := by
      intro n
      induction n with
      | zero =>
        intro a ls hl hn K
        refine lv_iload hx hb dA_outs_41 (lv_at hl 0 rfl) ?_
        refine lv_bipush (v := 52) hx hb dA_outs_43 (by decide) ?_
        refine lv_icmp_ge (tgt := 99) hx hb dA_outs_45 (by decide) (fun hc8 => ?_) (fun hc8 => ?_)
        · simp only [ou_lp] at K
          exact K _ (lv_sub hl [1] rfl)
        · exact absurd (by decide) hc8
      | succ n ih =>
        intro a ls hl hn K
        refine lv_iload hx hb dA_outs_41 (lv_at hl 0 rfl) ?_
        refine lv_bipush (v := 52) hx hb dA_outs_43 (by decide) ?_
        refine lv_icmp_ge (tgt := 99) hx hb dA_outs_45 (by decide) (fun hc9 => ?_) (fun hc9 => ?_)
        · exact absurd hc9 (nI_ge (b := 52) (by omega) (by decide))
        · refine lv_lload_n hx hb dA_outs_48 rfl (lv_at hl 2 rfl) ?_
          refine lv_lconst (v := 1) hx hb dA_outs_49 (by decide) ?_
          refine lv_iload hx hb dA_outs_50 (lv_at hl 0 rfl) ?_
          refine jv_lshl hx hb dA_outs_52 ?_
          refine lv_land hx hb dA_outs_53 ?_
          refine jt_topl (fun x10 ex10 => ?_)
          refine lv_lstore (lv' := [(7, .long x10), (6, .int (nI (52 - (n + 1)))), (4, .long a), (2, .long x5), (0, .ref (xo_a g)), (1, .int k)]) hx hb dA_outs_54 hl (by decide) rfl (fun ls hl => ?_)
          refine lv_lload hx hb dA_outs_56 (lv_at hl 0 rfl) ?_
          refine lv_lconst (v := 0) hx hb dA_outs_58 (by decide) ?_
          refine jv_lceq (tgt := 93) hx hb dA_outs_59 dA_outs_60 (by decide) (fun hc11 => ?_) (fun hc11 => ?_)
          · refine jv_iinc (a := 1) hx hb dA_outs_93 hl (k := 1) rfl (by decide) (by decide) (fun x12 ex12 ls hl => ?_)
            have hl : lv_has ls 9 [(6, .int x12), (7, .long x10), (4, .long a), (2, .long x5), (0, .ref (xo_a g)), (1, .int k)] := hl
            refine lv_goto (tgt := 41) hx hb dA_outs_96 (by decide) ?_
            rw [nI_up (by omega)] at ex12
            subst ex12 ex10
            simp only [ou_lp, if_pos hc11] at K
            exact ih _ ls (lv_sub hl [0, 2, 3, 4, 5] rfl) (by omega) K
          · refine lv_aload_n hx hb dA_outs_63 rfl (lv_at hl 4 rfl) ?_
            refine va_get (D := g.1) (ci := 0) (v := .ref (xo_t g)) (C := "HandTables") (T := T_A) (N := 3) hx hb hts (fun w hw => wd_in (u_inA w hw)) hown hK hP 0 rfl rfl 0 (by decide) (hts _ (wd_in (gw_mem 49 rfl rfl))) (fun _ h => h) rfl dA_outs_64 ?_
            refine lv_aload_n hx hb dA_outs_67 rfl (lv_at hl 4 rfl) ?_
            refine va_get (D := g.1) (ci := 0) (v := .ref (xo_t g)) (C := "HandTables") (T := T_A) (N := 3) hx hb hts (fun w hw => wd_in (u_inA w hw)) hown hK hP 0 rfl rfl 0 (by decide) (hts _ (wd_in (gw_mem 49 rfl rfl))) (fun _ h => h) rfl dA_outs_68 ?_
            refine lv_bipush (v := 6) hx hb dA_outs_71 (by decide) ?_
            refine va_lald hx hb hK hP 1 0 rfl rfl (by unfold vp_in; decide) dA_outs_73 ?_
            refine lv_lload hx hb dA_outs_74 (lv_at hl 0 rfl) ?_
            refine lv_lor hx hb dA_outs_76 ?_
            refine pu_S (cA_leadersOn l g T dk dn _) rfl kA_A_leadersOn hS bl_xo hB rfl ⟨Nat.le_of_ble_eq_true rfl, Nat.le_of_ble_eq_true rfl⟩ hl.1 rfl (Nat.le_of_ble_eq_true rfl) ⟨Nat.zero_le _, Nat.zero_le _⟩ dA_outs_77 ?_
            refine lv_iconst (v := 1) hx hb dA_outs_80 (by decide) ?_
            refine lv_iload_n hx hb dA_outs_81 rfl (lv_at hl 5 rfl) ?_
            refine jv_ishl hx hb dA_outs_82 ?_
            refine lv_icmp_ne (tgt := 93) hx hb dA_outs_83 (by decide) (fun hc13 => ?_) (fun hc13 => ?_)
            · refine jv_iinc (a := 1) hx hb dA_outs_93 hl (k := 1) rfl (by decide) (by decide) (fun x14 ex14 ls hl => ?_)
              have hl : lv_has ls 9 [(6, .int x14), (7, .long x10), (4, .long a), (2, .long x5), (0, .ref (xo_a g)), (1, .int k)] := hl
              refine lv_goto (tgt := 41) hx hb dA_outs_96 (by decide) ?_
              rw [nI_up (by omega)] at ex14
              subst ex14 ex10
              simp only [ou_lp, if_neg hc11, if_neg hc13] at K
              exact ih _ ls (lv_sub hl [0, 2, 3, 4, 5] rfl) (by omega) K
            · refine lv_lload hx hb dA_outs_86 (lv_at hl 2 rfl) ?_
              refine lv_lload hx hb dA_outs_88 (lv_at hl 0 rfl) ?_
              refine lv_lor hx hb dA_outs_90 ?_
              refine jt_topl (fun x15 ex15 => ?_)
              refine lv_lstore (lv' := [(4, .long x15), (7, .long x10), (6, .int (nI (52 - (n + 1)))), (2, .long x5), (0, .ref (xo_a g)), (1, .int k)]) hx hb dA_outs_91 hl (by decide) rfl (fun ls hl => ?_)
              refine jv_iinc (a := 1) hx hb dA_outs_93 hl (k := 2) rfl (by decide) (by decide) (fun x16 ex16 ls hl => ?_)
              have hl : lv_has ls 9 [(6, .int x16), (4, .long x15), (7, .long x10), (2, .long x5), (0, .ref (xo_a g)), (1, .int k)] := hl
              refine lv_goto (tgt := 41) hx hb dA_outs_96 (by decide) ?_
              rw [nI_up (by omega)] at ex16
              subst ex16 ex15 ex10
              simp only [ou_lp, if_neg hc11, if_pos hc13] at K
              exact ih _ ls (lv_sub hl [0, 1, 3, 4, 5] rfl) (by omega) K
    refine hloop 52 x6 ls (by have h9 := lv_sub hl [0, 1, 2, 3, 4] rfl; subst ex7; exact h9) (by decide) (fun ls hl => ?_)
    clear hloop
    obtain ⟨y17, ey17⟩ : ∃ z, (ou_lp T x5 k 52 x6) = z := ⟨_, rfl⟩
    rw [ey17] at hl
    refine lv_lload hx hb dA_outs_99 (lv_at hl 0 rfl) ?_
    exact px_lret hx hb hr hlk dA_outs_101 (by subst ey17 ex7 ex6 ex5; (try simp only [if_neg hc1, if_neg hc2, if_neg hc3, if_neg hc4]) <;> rfl)
  · exact px_throw (cls := ex_IS) (text := "the board is full") hx hb hst hown hts hEx (by decide +kernel) (gw_mem 341 rfl rfl) (gw_mem 35 rfl rfl) (by decide) at_IS an_IS ag_IS (by rw [hml]; exact hl.1) dA_outs_20 dA_outs_23 dA_outs_24 dA_outs_26 dA_outs_29 hout (Nat.le_of_ble_eq_true rfl) (Nat.le_of_ble_eq_true rfl) (Nat.le_of_ble_eq_true rfl) (Nat.le_of_ble_eq_true rfl) hlk (by (try simp only [if_neg hc1, if_neg hc2, if_neg hc3, if_pos hc4]) <;> rfl)
set_option maxHeartbeats 4000000 in
set_option maxRecDepth 100000 in
theorem cA_share (l : Launch) (g : xo_E) (T : Nat → Int64) (dk : Nat → Int32) (dn : Int32) (k : Int32) (q : Int32) (hst : l.stackTraces = false)  : px_M l yA_share bA_share 6 (some .int) 7 [.ref (xo_a g), .int k, .int q] (xo_F g T dk dn) (if q_seat k then .inl ex_IO else if 0 ≤ q then (if T k.toNatClampNeg = 0 then .inl ex_IS else if 5 - g_bs T = 0 then r_i (g_share (g_lead T (T (6 : Int32).toNatClampNeg)) k q) else .inl ex_IS) else .inl ex_IA) := by
  refine vx_ofW (cc := bA_share) (maxL := 6) (ret := (some .int)) (by decide) rfl ?_
  intro p e s m args below meth c s₁ BB hml hout hv
  obtain ⟨rfl, hB⟩ := hv
  have hx := BB.exec
  have hb := BB.bytes
  have hr := BB.returns
  have hlk := BB.notSynchronized
  have hts := atoms_spec (ws := wd yA_share bA_share 6 (some .int)) BB.pre
  have hown : s.vm.findClass "HandTables" = some m.cls := findClass_of_methodNamed BB.named
  have hS : CallFix p m c bA_share 6 s _ (wd yA_share bA_share 6 (some .int)) "HandTables" := ⟨hx, hb, hml, hown, hts⟩
  obtain ⟨hTa, hEx, hP, hK⟩ := id hB
  obtain ⟨⟨t1, hT1⟩, ⟨t2, hT2⟩, ⟨t3, hT3⟩, ⟨t4, hT4⟩⟩ := id hTa
  have hl := lv_entry ([.ref (xo_a g), .int k, .int q]) (n := 6) (Nat.le_of_ble_eq_true rfl)
  rw [lg_entry_eq]
  generalize (lg_sl ([.ref (xo_a g), .int k, .int q]) ++ List.replicate (6 - (lg_sl ([.ref (xo_a g), .int k, .int q])).length) Slot.unset).toArray = ls at hl ⊢
  have hl : lv_has ls 6 [(0, .ref (xo_a g)), (1, .int k), (2, .int q)] := hl
  refine lv_iload_n hx hb dA_share_0 rfl (lv_at hl 1 rfl) ?_
  refine px_S (cA_requireSeat l _ hst) rfl kA_A_requireSeat hS bl_ex hEx ⟨Nat.le_of_ble_eq_true rfl, Nat.le_of_ble_eq_true rfl⟩ hl.1 rfl (Nat.le_of_ble_eq_true rfl) ⟨Nat.le_of_ble_eq_true rfl, Nat.le_of_ble_eq_true rfl⟩ dA_share_1 hout hlk (fun E h9 => ?_) (fun v hv => ?_)
  · obtain ⟨hc1, rfl⟩ := ri_then h9
    (try simp only [g_share, if_pos hc1]) <;> rfl
  obtain ⟨hc1, rfl⟩ := ri_else hv
  refine lv_iload_n hx hb dA_share_4 rfl (lv_at hl 2 rfl) ?_
  refine lv_if_ge (tgt := 18) hx hb dA_share_5 (by decide) (fun hc2 => ?_) (fun hc2 => ?_)
  · refine lv_aload_n hx hb dA_share_18 rfl (lv_at hl 0 rfl) ?_
    refine lv_iload_n hx hb dA_share_19 rfl (lv_at hl 1 rfl) ?_
    refine px_V (cA_requireTaken l g T dk dn _ hst (se_in (by assumption))) rfl kA_A_requireTaken hS bl_xo hB (xo_rc hB) ⟨Nat.le_of_ble_eq_true rfl, Nat.le_of_ble_eq_true rfl⟩ hl.1 rfl (Nat.le_of_ble_eq_true rfl) ⟨Nat.le_of_ble_eq_true rfl, Nat.le_of_ble_eq_true rfl⟩ dA_share_20 hout hlk (fun E h9 => ?_) (fun v hv => ?_)
    · obtain ⟨hc3, rfl⟩ := ri_then h9
      (try simp only [g_share, if_neg hc1, if_pos hc2, if_pos hc3]) <;> rfl
    obtain ⟨hc3, rfl⟩ := ri_else hv
    refine lv_aload_n hx hb dA_share_23 rfl (lv_at hl 0 rfl) ?_
    refine pu_V (cA_missing l g T dk dn ) rfl kA_A_missing hS bl_xo hB rfl (xo_rc hB) ⟨Nat.le_of_ble_eq_true rfl, Nat.le_of_ble_eq_true rfl⟩ hl.1 rfl (Nat.le_of_ble_eq_true rfl) ⟨Nat.zero_le _, Nat.zero_le _⟩ dA_share_24 ?_
    refine lv_if_eq (tgt := 40) hx hb dA_share_27 (by decide) (fun hc4 => ?_) (fun hc4 => ?_)
    · refine lv_aload_n hx hb dA_share_40 rfl (lv_at hl 0 rfl) ?_
      refine va_get (D := g.1) (ci := 0) (v := .ref (xo_t g)) (C := "HandTables") (T := T_A) (N := 3) hx hb hts (fun w hw => wd_in (u_inA w hw)) hown hK hP 0 rfl rfl 0 (by decide) (hts _ (wd_in (gw_mem 49 rfl rfl))) (fun _ h => h) rfl dA_share_41 ?_
      refine lv_aload_n hx hb dA_share_44 rfl (lv_at hl 0 rfl) ?_
      refine va_get (D := g.1) (ci := 0) (v := .ref (xo_t g)) (C := "HandTables") (T := T_A) (N := 3) hx hb hts (fun w hw => wd_in (u_inA w hw)) hown hK hP 0 rfl rfl 0 (by decide) (hts _ (wd_in (gw_mem 49 rfl rfl))) (fun _ h => h) rfl dA_share_45 ?_
      refine lv_bipush (v := 6) hx hb dA_share_48 (by decide) ?_
      refine va_lald hx hb hK hP 1 0 rfl rfl (by unfold vp_in; decide) dA_share_50 ?_
      refine pu_S (cA_leadersOn l g T dk dn _) rfl kA_A_leadersOn hS bl_xo hB rfl ⟨Nat.le_of_ble_eq_true rfl, Nat.le_of_ble_eq_true rfl⟩ hl.1 rfl (Nat.le_of_ble_eq_true rfl) ⟨Nat.zero_le _, Nat.zero_le _⟩ dA_share_51 ?_
      refine jt_topi (fun x5 ex5 => ?_)
      refine lv_istore_n (lv' := [(3, .int x5), (0, .ref (xo_a g)), (1, .int k), (2, .int q)]) hx hb dA_share_54 rfl hl (by decide) rfl (fun ls hl => ?_)
      refine lv_iload_n hx hb dA_share_55 rfl (lv_at hl 0 rfl) ?_
      refine pu_S (cI_bitCount l _) rfl kA_I_bitCount hS bl_T trivial rfl ⟨Nat.le_of_ble_eq_true rfl, Nat.le_of_ble_eq_true rfl⟩ hl.1 rfl (Nat.le_of_ble_eq_true rfl) ⟨Nat.zero_le _, Nat.zero_le _⟩ dA_share_56 ?_
      refine jt_topi (fun x6 ex6 => ?_)
      refine lv_istore (lv' := [(4, .int x6), (3, .int x5), (0, .ref (xo_a g)), (1, .int k), (2, .int q)]) hx hb dA_share_59 hl (by decide) rfl (fun ls hl => ?_)
      refine lv_iload hx hb dA_share_61 (lv_at hl 0 rfl) ?_
      refine lv_if_eq (tgt := 74) hx hb dA_share_63 (by decide) (fun hc7 => ?_) (fun hc7 => ?_)
      · refine lv_iconst (v := 0) hx hb dA_share_74 (by decide) ?_
        exact px_iret hx hb hr hlk dA_share_75 (by subst ex6 ex5; (try simp only [g_share, if_neg hc1, if_pos hc2, if_neg hc3, if_pos hc4, if_pos hc7]) <;> rfl)
      · refine lv_iload_n hx hb dA_share_66 rfl (lv_at hl 1 rfl) ?_
        refine lv_iconst (v := 1) hx hb dA_share_67 (by decide) ?_
        refine lv_iload_n hx hb dA_share_68 rfl (lv_at hl 3 rfl) ?_
        refine jv_ishl hx hb dA_share_69 ?_
        refine lv_iand hx hb dA_share_70 ?_
        refine lv_if_ne (tgt := 76) hx hb dA_share_71 (by decide) (fun hc8 => ?_) (fun hc8 => ?_)
        · refine lv_iload_n hx hb dA_share_76 rfl (lv_at hl 1 rfl) ?_
          refine lv_iconst (v := 1) hx hb dA_share_77 (by decide) ?_
          refine lv_iload_n hx hb dA_share_78 rfl (lv_at hl 3 rfl) ?_
          refine jv_ishl hx hb dA_share_79 ?_
          refine lv_iconst (v := 1) hx hb dA_share_80 (by decide) ?_
          refine lv_isub hx hb dA_share_81 ?_
          refine lv_iand hx hb dA_share_82 ?_
          refine pu_S (cI_bitCount l _) rfl kA_I_bitCount hS bl_T trivial rfl ⟨Nat.le_of_ble_eq_true rfl, Nat.le_of_ble_eq_true rfl⟩ hl.1 rfl (Nat.le_of_ble_eq_true rfl) ⟨Nat.zero_le _, Nat.zero_le _⟩ dA_share_83 ?_
          refine jt_topi (fun x9 ex9 => ?_)
          refine lv_istore (lv' := [(5, .int x9), (4, .int x6), (3, .int x5), (0, .ref (xo_a g)), (1, .int k), (2, .int q)]) hx hb dA_share_86 hl (by decide) rfl (fun ls hl => ?_)
          refine lv_iload_n hx hb dA_share_88 rfl (lv_at hl 5 rfl) ?_
          refine lv_iload hx hb dA_share_89 (lv_at hl 1 rfl) ?_
          refine lv_idiv hx hb dA_share_91 (by assumption) ?_
          refine lv_iload hx hb dA_share_92 (lv_at hl 0 rfl) ?_
          refine lv_iload_n hx hb dA_share_94 rfl (lv_at hl 5 rfl) ?_
          refine lv_iload hx hb dA_share_95 (lv_at hl 1 rfl) ?_
          refine jv_irem hx hb dA_share_97 (by assumption) ?_
          refine lv_icmp_ge (tgt := 105) hx hb dA_share_98 (by decide) (fun hc10 => ?_) (fun hc10 => ?_)
          · refine lv_iconst (v := 0) hx hb dA_share_105 (by decide) ?_
            refine lv_iadd hx hb dA_share_106 ?_
            exact px_iret hx hb hr hlk dA_share_107 (by subst ex9 ex6 ex5; (try simp only [g_share, if_neg hc1, if_pos hc2, if_neg hc3, if_pos hc4, if_neg hc7, if_neg hc8, if_pos hc10]) <;> rfl)
          · refine lv_iconst (v := 1) hx hb dA_share_101 (by decide) ?_
            refine lv_goto (tgt := 106) hx hb dA_share_102 (by decide) ?_
            refine lv_iadd hx hb dA_share_106 ?_
            exact px_iret hx hb hr hlk dA_share_107 (by subst ex9 ex6 ex5; (try simp only [g_share, if_neg hc1, if_pos hc2, if_neg hc3, if_pos hc4, if_neg hc7, if_neg hc8, if_neg hc10]) <;> rfl)
        · refine lv_iconst (v := 0) hx hb dA_share_74 (by decide) ?_
          exact px_iret hx hb hr hlk dA_share_75 (by subst ex6 ex5; (try simp only [g_share, if_neg hc1, if_pos hc2, if_neg hc3, if_pos hc4, if_neg hc7, if_pos hc8]) <;> rfl)
    · exact px_throw (cls := ex_IS) (text := "the board is not full") hx hb hst hown hts hEx (by decide +kernel) (gw_mem 341 rfl rfl) (gw_mem 35 rfl rfl) (by decide) at_IS an_IS ag_IS (by rw [hml]; exact hl.1) dA_share_30 dA_share_33 dA_share_34 dA_share_36 dA_share_39 hout (Nat.le_of_ble_eq_true rfl) (Nat.le_of_ble_eq_true rfl) (Nat.le_of_ble_eq_true rfl) (Nat.le_of_ble_eq_true rfl) hlk (by (try simp only [g_share, if_neg hc1, if_pos hc2, if_neg hc3, if_neg hc4]) <;> rfl)
  · exact px_throw (cls := ex_IA) (text := "the pot is below 0") hx hb hst hown hts hEx (by decide +kernel) (gw_mem 97 rfl rfl) (gw_mem 33 rfl rfl) (by decide) at_IA an_IA ag_IA (by rw [hml]; exact hl.1) dA_share_8 dA_share_11 dA_share_12 dA_share_14 dA_share_17 hout (Nat.le_of_ble_eq_true rfl) (Nat.le_of_ble_eq_true rfl) (Nat.le_of_ble_eq_true rfl) (Nat.le_of_ble_eq_true rfl) hlk (by (try simp only [g_share, if_neg hc1, if_neg hc2]) <;> rfl)
set_option maxHeartbeats 4000000 in
set_option maxRecDepth 100000 in
theorem cA_wins_0 (l : Launch) (g : xo_E) (T : Nat → Int64) (dk : Nat → Int32) (dn : Int32) (k : Int32) (w : Int32) (hst : l.stackTraces = false) (hb5 : 5 - g_bs T = nI 0) : px_M l yA_wins bA_wins 3 (some .int) 9 [.ref (xo_a g), .int k, .int w] (xo_F g T dk dn) (if q_seat k then .inl ex_IO else if w = 0 then (if T k.toNatClampNeg = 0 then .inl ex_IS else if g_bs T < 3 then .inl ex_IS else r_i (g_cb T k 0 0 (T (6 : Int32).toNatClampNeg) (g_free T))) else if w = 1 then (if T k.toNatClampNeg = 0 then .inl ex_IS else if g_bs T < 3 then .inl ex_IS else r_i (g_cb T k 1 0 (T (6 : Int32).toNatClampNeg) (g_free T))) else .inl ex_IA) := by
  refine vx_ofW (cc := bA_wins) (maxL := 3) (ret := (some .int)) (by decide) rfl ?_
  intro p e s m args below meth c s₁ BB hml hout hv
  obtain ⟨rfl, hB⟩ := hv
  have hx := BB.exec
  have hb := BB.bytes
  have hr := BB.returns
  have hlk := BB.notSynchronized
  have hts := atoms_spec (ws := wd yA_wins bA_wins 3 (some .int)) BB.pre
  have hown : s.vm.findClass "HandTables" = some m.cls := findClass_of_methodNamed BB.named
  have hS : CallFix p m c bA_wins 3 s _ (wd yA_wins bA_wins 3 (some .int)) "HandTables" := ⟨hx, hb, hml, hown, hts⟩
  obtain ⟨hTa, hEx, hP, hK⟩ := id hB
  obtain ⟨⟨t1, hT1⟩, ⟨t2, hT2⟩, ⟨t3, hT3⟩, ⟨t4, hT4⟩⟩ := id hTa
  have hl := lv_entry ([.ref (xo_a g), .int k, .int w]) (n := 3) (Nat.le_of_ble_eq_true rfl)
  rw [lg_entry_eq]
  generalize (lg_sl ([.ref (xo_a g), .int k, .int w]) ++ List.replicate (3 - (lg_sl ([.ref (xo_a g), .int k, .int w])).length) Slot.unset).toArray = ls at hl ⊢
  have hl : lv_has ls 3 [(0, .ref (xo_a g)), (1, .int k), (2, .int w)] := hl
  refine lv_iload_n hx hb dA_wins_0 rfl (lv_at hl 1 rfl) ?_
  refine px_S (cA_requireSeat l _ hst) rfl kA_A_requireSeat hS bl_ex hEx ⟨Nat.le_of_ble_eq_true rfl, Nat.le_of_ble_eq_true rfl⟩ hl.1 rfl (Nat.le_of_ble_eq_true rfl) ⟨Nat.le_of_ble_eq_true rfl, Nat.le_of_ble_eq_true rfl⟩ dA_wins_1 hout hlk (fun E h9 => ?_) (fun v hv => ?_)
  · obtain ⟨hc1, rfl⟩ := ri_then h9
    (try simp only [if_pos hc1]) <;> rfl
  obtain ⟨hc1, rfl⟩ := ri_else hv
  refine lv_iload_n hx hb dA_wins_4 rfl (lv_at hl 2 rfl) ?_
  refine lv_if_eq (tgt := 23) hx hb dA_wins_5 (by decide) (fun hc2 => ?_) (fun hc2 => ?_)
  · refine lv_aload_n hx hb dA_wins_23 rfl (lv_at hl 0 rfl) ?_
    refine lv_iload_n hx hb dA_wins_24 rfl (lv_at hl 1 rfl) ?_
    refine px_V (cA_requireTaken l g T dk dn _ hst (se_in (by assumption))) rfl kA_A_requireTaken hS bl_xo hB (xo_rc hB) ⟨Nat.le_of_ble_eq_true rfl, Nat.le_of_ble_eq_true rfl⟩ hl.1 rfl (Nat.le_of_ble_eq_true rfl) ⟨Nat.le_of_ble_eq_true rfl, Nat.le_of_ble_eq_true rfl⟩ dA_wins_25 hout hlk (fun E h9 => ?_) (fun v hv => ?_)
    · obtain ⟨hc3, rfl⟩ := ri_then h9
      (try simp only [if_neg hc1, if_pos hc2, if_pos hc3]) <;> rfl
    obtain ⟨hc3, rfl⟩ := ri_else hv
    refine lv_aload_n hx hb dA_wins_28 rfl (lv_at hl 0 rfl) ?_
    refine px_V (cA_requireThreeOnBoard l g T dk dn  hst) rfl kA_A_requireThreeOnBoard hS bl_xo hB (xo_rc hB) ⟨Nat.le_of_ble_eq_true rfl, Nat.le_of_ble_eq_true rfl⟩ hl.1 rfl (Nat.le_of_ble_eq_true rfl) ⟨Nat.le_of_ble_eq_true rfl, Nat.le_of_ble_eq_true rfl⟩ dA_wins_29 hout hlk (fun E h9 => ?_) (fun v hv => ?_)
    · obtain ⟨hc4, rfl⟩ := ri_then h9
      (try simp only [if_neg hc1, if_pos hc2, if_neg hc3, if_pos hc4]) <;> rfl
    obtain ⟨hc4, rfl⟩ := ri_else hv
    refine lv_aload_n hx hb dA_wins_32 rfl (lv_at hl 0 rfl) ?_
    refine va_get (D := g.1) (ci := 0) (v := .ref (xo_t g)) (C := "HandTables") (T := T_A) (N := 3) hx hb hts (fun w hw => wd_in (u_inA w hw)) hown hK hP 0 rfl rfl 0 (by decide) (hts _ (wd_in (gw_mem 49 rfl rfl))) (fun _ h => h) rfl dA_wins_33 ?_
    refine lv_iload_n hx hb dA_wins_36 rfl (lv_at hl 1 rfl) ?_
    refine lv_iload_n hx hb dA_wins_37 rfl (lv_at hl 2 rfl) ?_
    refine lv_iconst (v := 1) hx hb dA_wins_38 (by decide) ?_
    refine lv_icmp_ne (tgt := 46) hx hb dA_wins_39 (by decide) (fun hc5 => ?_) (fun hc5 => ?_)
    · refine lv_iconst (v := 0) hx hb dA_wins_46 (by decide) ?_
      refine lv_aload_n hx hb dA_wins_47 rfl (lv_at hl 0 rfl) ?_
      refine va_get (D := g.1) (ci := 0) (v := .ref (xo_t g)) (C := "HandTables") (T := T_A) (N := 3) hx hb hts (fun w hw => wd_in (u_inA w hw)) hown hK hP 0 rfl rfl 0 (by decide) (hts _ (wd_in (gw_mem 49 rfl rfl))) (fun _ h => h) rfl dA_wins_48 ?_
      refine lv_bipush (v := 6) hx hb dA_wins_51 (by decide) ?_
      refine va_lald hx hb hK hP 1 0 rfl rfl (by unfold vp_in; decide) dA_wins_53 ?_
      refine lv_aload_n hx hb dA_wins_54 rfl (lv_at hl 0 rfl) ?_
      refine pu_V (cA_free l g T dk dn ) rfl kA_A_free hS bl_xo hB rfl (xo_rc hB) ⟨Nat.le_of_ble_eq_true rfl, Nat.le_of_ble_eq_true rfl⟩ hl.1 rfl (Nat.le_of_ble_eq_true rfl) ⟨Nat.zero_le _, Nat.zero_le _⟩ dA_wins_55 ?_
      refine lv_aload_n hx hb dA_wins_58 rfl (lv_at hl 0 rfl) ?_
      refine pu_V (cA_missing l g T dk dn ) rfl kA_A_missing hS bl_xo hB rfl (xo_rc hB) ⟨Nat.le_of_ble_eq_true rfl, Nat.le_of_ble_eq_true rfl⟩ hl.1 rfl (Nat.le_of_ble_eq_true rfl) ⟨Nat.zero_le _, Nat.zero_le _⟩ dA_wins_59 ?_
      refine lv_topi (fun xm exm => ?_)
      have exm : xm = nI 0 := exm.trans hb5
      subst exm
      refine pu_S (cA_countBoards_0 l g T dk dn _ _ _ _) rfl kA_A_countBoards hS bl_xo hB rfl ⟨Nat.le_of_ble_eq_true rfl, Nat.le_of_ble_eq_true rfl⟩ hl.1 rfl (Nat.le_of_ble_eq_true rfl) ⟨Nat.zero_le _, Nat.zero_le _⟩ dA_wins_62 ?_
      exact px_iret hx hb hr hlk dA_wins_65 (by (try simp only [if_neg hc1, if_pos hc2, if_neg hc3, if_neg hc4]) <;> rfl)
    · exact absurd (hc2.symm.trans hc5) (by decide)
  · refine lv_iload_n hx hb dA_wins_8 rfl (lv_at hl 2 rfl) ?_
    refine lv_iconst (v := 1) hx hb dA_wins_9 (by decide) ?_
    refine lv_icmp_eq (tgt := 23) hx hb dA_wins_10 (by decide) (fun hc6 => ?_) (fun hc6 => ?_)
    · refine lv_aload_n hx hb dA_wins_23 rfl (lv_at hl 0 rfl) ?_
      refine lv_iload_n hx hb dA_wins_24 rfl (lv_at hl 1 rfl) ?_
      refine px_V (cA_requireTaken l g T dk dn _ hst (se_in (by assumption))) rfl kA_A_requireTaken hS bl_xo hB (xo_rc hB) ⟨Nat.le_of_ble_eq_true rfl, Nat.le_of_ble_eq_true rfl⟩ hl.1 rfl (Nat.le_of_ble_eq_true rfl) ⟨Nat.le_of_ble_eq_true rfl, Nat.le_of_ble_eq_true rfl⟩ dA_wins_25 hout hlk (fun E h9 => ?_) (fun v hv => ?_)
      · obtain ⟨hc7, rfl⟩ := ri_then h9
        (try simp only [if_neg hc1, if_neg hc2, if_pos hc6, if_pos hc7]) <;> rfl
      obtain ⟨hc7, rfl⟩ := ri_else hv
      refine lv_aload_n hx hb dA_wins_28 rfl (lv_at hl 0 rfl) ?_
      refine px_V (cA_requireThreeOnBoard l g T dk dn  hst) rfl kA_A_requireThreeOnBoard hS bl_xo hB (xo_rc hB) ⟨Nat.le_of_ble_eq_true rfl, Nat.le_of_ble_eq_true rfl⟩ hl.1 rfl (Nat.le_of_ble_eq_true rfl) ⟨Nat.le_of_ble_eq_true rfl, Nat.le_of_ble_eq_true rfl⟩ dA_wins_29 hout hlk (fun E h9 => ?_) (fun v hv => ?_)
      · obtain ⟨hc8, rfl⟩ := ri_then h9
        (try simp only [if_neg hc1, if_neg hc2, if_pos hc6, if_neg hc7, if_pos hc8]) <;> rfl
      obtain ⟨hc8, rfl⟩ := ri_else hv
      refine lv_aload_n hx hb dA_wins_32 rfl (lv_at hl 0 rfl) ?_
      refine va_get (D := g.1) (ci := 0) (v := .ref (xo_t g)) (C := "HandTables") (T := T_A) (N := 3) hx hb hts (fun w hw => wd_in (u_inA w hw)) hown hK hP 0 rfl rfl 0 (by decide) (hts _ (wd_in (gw_mem 49 rfl rfl))) (fun _ h => h) rfl dA_wins_33 ?_
      refine lv_iload_n hx hb dA_wins_36 rfl (lv_at hl 1 rfl) ?_
      refine lv_iload_n hx hb dA_wins_37 rfl (lv_at hl 2 rfl) ?_
      refine lv_iconst (v := 1) hx hb dA_wins_38 (by decide) ?_
      refine lv_icmp_ne (tgt := 46) hx hb dA_wins_39 (by decide) (fun hc9 => ?_) (fun hc9 => ?_)
      · exact absurd hc6 hc9
      · refine lv_iconst (v := 1) hx hb dA_wins_42 (by decide) ?_
        refine lv_goto (tgt := 47) hx hb dA_wins_43 (by decide) ?_
        refine lv_aload_n hx hb dA_wins_47 rfl (lv_at hl 0 rfl) ?_
        refine va_get (D := g.1) (ci := 0) (v := .ref (xo_t g)) (C := "HandTables") (T := T_A) (N := 3) hx hb hts (fun w hw => wd_in (u_inA w hw)) hown hK hP 0 rfl rfl 0 (by decide) (hts _ (wd_in (gw_mem 49 rfl rfl))) (fun _ h => h) rfl dA_wins_48 ?_
        refine lv_bipush (v := 6) hx hb dA_wins_51 (by decide) ?_
        refine va_lald hx hb hK hP 1 0 rfl rfl (by unfold vp_in; decide) dA_wins_53 ?_
        refine lv_aload_n hx hb dA_wins_54 rfl (lv_at hl 0 rfl) ?_
        refine pu_V (cA_free l g T dk dn ) rfl kA_A_free hS bl_xo hB rfl (xo_rc hB) ⟨Nat.le_of_ble_eq_true rfl, Nat.le_of_ble_eq_true rfl⟩ hl.1 rfl (Nat.le_of_ble_eq_true rfl) ⟨Nat.zero_le _, Nat.zero_le _⟩ dA_wins_55 ?_
        refine lv_aload_n hx hb dA_wins_58 rfl (lv_at hl 0 rfl) ?_
        refine pu_V (cA_missing l g T dk dn ) rfl kA_A_missing hS bl_xo hB rfl (xo_rc hB) ⟨Nat.le_of_ble_eq_true rfl, Nat.le_of_ble_eq_true rfl⟩ hl.1 rfl (Nat.le_of_ble_eq_true rfl) ⟨Nat.zero_le _, Nat.zero_le _⟩ dA_wins_59 ?_
        refine lv_topi (fun xm exm => ?_)
        have exm : xm = nI 0 := exm.trans hb5
        subst exm
        refine pu_S (cA_countBoards_0 l g T dk dn _ _ _ _) rfl kA_A_countBoards hS bl_xo hB rfl ⟨Nat.le_of_ble_eq_true rfl, Nat.le_of_ble_eq_true rfl⟩ hl.1 rfl (Nat.le_of_ble_eq_true rfl) ⟨Nat.zero_le _, Nat.zero_le _⟩ dA_wins_62 ?_
        exact px_iret hx hb hr hlk dA_wins_65 (by (try simp only [if_neg hc1, if_neg hc2, if_pos hc6, if_neg hc7, if_neg hc8]) <;> rfl)
    · exact px_throw (cls := ex_IA) (text := "neither wins nor shares") hx hb hst hown hts hEx (by decide +kernel) (gw_mem 97 rfl rfl) (gw_mem 33 rfl rfl) (by decide) at_IA an_IA ag_IA (by rw [hml]; exact hl.1) dA_wins_13 dA_wins_16 dA_wins_17 dA_wins_19 dA_wins_22 hout (Nat.le_of_ble_eq_true rfl) (Nat.le_of_ble_eq_true rfl) (Nat.le_of_ble_eq_true rfl) (Nat.le_of_ble_eq_true rfl) hlk (by (try simp only [if_neg hc1, if_neg hc2, if_neg hc6]) <;> rfl)
set_option maxHeartbeats 4000000 in
set_option maxRecDepth 100000 in
theorem cA_wins_1 (l : Launch) (g : xo_E) (T : Nat → Int64) (dk : Nat → Int32) (dn : Int32) (k : Int32) (w : Int32) (hst : l.stackTraces = false) (hb5 : 5 - g_bs T = nI 1) : px_M l yA_wins bA_wins 3 (some .int) 9 [.ref (xo_a g), .int k, .int w] (xo_F g T dk dn) (if q_seat k then .inl ex_IO else if w = 0 then (if T k.toNatClampNeg = 0 then .inl ex_IS else if g_bs T < 3 then .inl ex_IS else r_i (g_cb T k 0 1 (T (6 : Int32).toNatClampNeg) (g_free T))) else if w = 1 then (if T k.toNatClampNeg = 0 then .inl ex_IS else if g_bs T < 3 then .inl ex_IS else r_i (g_cb T k 1 1 (T (6 : Int32).toNatClampNeg) (g_free T))) else .inl ex_IA) := by
  refine vx_ofW (cc := bA_wins) (maxL := 3) (ret := (some .int)) (by decide) rfl ?_
  intro p e s m args below meth c s₁ BB hml hout hv
  obtain ⟨rfl, hB⟩ := hv
  have hx := BB.exec
  have hb := BB.bytes
  have hr := BB.returns
  have hlk := BB.notSynchronized
  have hts := atoms_spec (ws := wd yA_wins bA_wins 3 (some .int)) BB.pre
  have hown : s.vm.findClass "HandTables" = some m.cls := findClass_of_methodNamed BB.named
  have hS : CallFix p m c bA_wins 3 s _ (wd yA_wins bA_wins 3 (some .int)) "HandTables" := ⟨hx, hb, hml, hown, hts⟩
  obtain ⟨hTa, hEx, hP, hK⟩ := id hB
  obtain ⟨⟨t1, hT1⟩, ⟨t2, hT2⟩, ⟨t3, hT3⟩, ⟨t4, hT4⟩⟩ := id hTa
  have hl := lv_entry ([.ref (xo_a g), .int k, .int w]) (n := 3) (Nat.le_of_ble_eq_true rfl)
  rw [lg_entry_eq]
  generalize (lg_sl ([.ref (xo_a g), .int k, .int w]) ++ List.replicate (3 - (lg_sl ([.ref (xo_a g), .int k, .int w])).length) Slot.unset).toArray = ls at hl ⊢
  have hl : lv_has ls 3 [(0, .ref (xo_a g)), (1, .int k), (2, .int w)] := hl
  refine lv_iload_n hx hb dA_wins_0 rfl (lv_at hl 1 rfl) ?_
  refine px_S (cA_requireSeat l _ hst) rfl kA_A_requireSeat hS bl_ex hEx ⟨Nat.le_of_ble_eq_true rfl, Nat.le_of_ble_eq_true rfl⟩ hl.1 rfl (Nat.le_of_ble_eq_true rfl) ⟨Nat.le_of_ble_eq_true rfl, Nat.le_of_ble_eq_true rfl⟩ dA_wins_1 hout hlk (fun E h9 => ?_) (fun v hv => ?_)
  · obtain ⟨hc1, rfl⟩ := ri_then h9
    (try simp only [if_pos hc1]) <;> rfl
  obtain ⟨hc1, rfl⟩ := ri_else hv
  refine lv_iload_n hx hb dA_wins_4 rfl (lv_at hl 2 rfl) ?_
  refine lv_if_eq (tgt := 23) hx hb dA_wins_5 (by decide) (fun hc2 => ?_) (fun hc2 => ?_)
  · refine lv_aload_n hx hb dA_wins_23 rfl (lv_at hl 0 rfl) ?_
    refine lv_iload_n hx hb dA_wins_24 rfl (lv_at hl 1 rfl) ?_
    refine px_V (cA_requireTaken l g T dk dn _ hst (se_in (by assumption))) rfl kA_A_requireTaken hS bl_xo hB (xo_rc hB) ⟨Nat.le_of_ble_eq_true rfl, Nat.le_of_ble_eq_true rfl⟩ hl.1 rfl (Nat.le_of_ble_eq_true rfl) ⟨Nat.le_of_ble_eq_true rfl, Nat.le_of_ble_eq_true rfl⟩ dA_wins_25 hout hlk (fun E h9 => ?_) (fun v hv => ?_)
    · obtain ⟨hc3, rfl⟩ := ri_then h9
      (try simp only [if_neg hc1, if_pos hc2, if_pos hc3]) <;> rfl
    obtain ⟨hc3, rfl⟩ := ri_else hv
    refine lv_aload_n hx hb dA_wins_28 rfl (lv_at hl 0 rfl) ?_
    refine px_V (cA_requireThreeOnBoard l g T dk dn  hst) rfl kA_A_requireThreeOnBoard hS bl_xo hB (xo_rc hB) ⟨Nat.le_of_ble_eq_true rfl, Nat.le_of_ble_eq_true rfl⟩ hl.1 rfl (Nat.le_of_ble_eq_true rfl) ⟨Nat.le_of_ble_eq_true rfl, Nat.le_of_ble_eq_true rfl⟩ dA_wins_29 hout hlk (fun E h9 => ?_) (fun v hv => ?_)
    · obtain ⟨hc4, rfl⟩ := ri_then h9
      (try simp only [if_neg hc1, if_pos hc2, if_neg hc3, if_pos hc4]) <;> rfl
    obtain ⟨hc4, rfl⟩ := ri_else hv
    refine lv_aload_n hx hb dA_wins_32 rfl (lv_at hl 0 rfl) ?_
    refine va_get (D := g.1) (ci := 0) (v := .ref (xo_t g)) (C := "HandTables") (T := T_A) (N := 3) hx hb hts (fun w hw => wd_in (u_inA w hw)) hown hK hP 0 rfl rfl 0 (by decide) (hts _ (wd_in (gw_mem 49 rfl rfl))) (fun _ h => h) rfl dA_wins_33 ?_
    refine lv_iload_n hx hb dA_wins_36 rfl (lv_at hl 1 rfl) ?_
    refine lv_iload_n hx hb dA_wins_37 rfl (lv_at hl 2 rfl) ?_
    refine lv_iconst (v := 1) hx hb dA_wins_38 (by decide) ?_
    refine lv_icmp_ne (tgt := 46) hx hb dA_wins_39 (by decide) (fun hc5 => ?_) (fun hc5 => ?_)
    · refine lv_iconst (v := 0) hx hb dA_wins_46 (by decide) ?_
      refine lv_aload_n hx hb dA_wins_47 rfl (lv_at hl 0 rfl) ?_
      refine va_get (D := g.1) (ci := 0) (v := .ref (xo_t g)) (C := "HandTables") (T := T_A) (N := 3) hx hb hts (fun w hw => wd_in (u_inA w hw)) hown hK hP 0 rfl rfl 0 (by decide) (hts _ (wd_in (gw_mem 49 rfl rfl))) (fun _ h => h) rfl dA_wins_48 ?_
      refine lv_bipush (v := 6) hx hb dA_wins_51 (by decide) ?_
      refine va_lald hx hb hK hP 1 0 rfl rfl (by unfold vp_in; decide) dA_wins_53 ?_
      refine lv_aload_n hx hb dA_wins_54 rfl (lv_at hl 0 rfl) ?_
      refine pu_V (cA_free l g T dk dn ) rfl kA_A_free hS bl_xo hB rfl (xo_rc hB) ⟨Nat.le_of_ble_eq_true rfl, Nat.le_of_ble_eq_true rfl⟩ hl.1 rfl (Nat.le_of_ble_eq_true rfl) ⟨Nat.zero_le _, Nat.zero_le _⟩ dA_wins_55 ?_
      refine lv_aload_n hx hb dA_wins_58 rfl (lv_at hl 0 rfl) ?_
      refine pu_V (cA_missing l g T dk dn ) rfl kA_A_missing hS bl_xo hB rfl (xo_rc hB) ⟨Nat.le_of_ble_eq_true rfl, Nat.le_of_ble_eq_true rfl⟩ hl.1 rfl (Nat.le_of_ble_eq_true rfl) ⟨Nat.zero_le _, Nat.zero_le _⟩ dA_wins_59 ?_
      refine lv_topi (fun xm exm => ?_)
      have exm : xm = nI 1 := exm.trans hb5
      subst exm
      refine pu_S (cA_countBoards_1 l g T dk dn _ _ _ _) rfl kA_A_countBoards hS bl_xo hB rfl ⟨Nat.le_of_ble_eq_true rfl, Nat.le_of_ble_eq_true rfl⟩ hl.1 rfl (Nat.le_of_ble_eq_true rfl) ⟨Nat.zero_le _, Nat.zero_le _⟩ dA_wins_62 ?_
      exact px_iret hx hb hr hlk dA_wins_65 (by (try simp only [if_neg hc1, if_pos hc2, if_neg hc3, if_neg hc4]) <;> rfl)
    · exact absurd (hc2.symm.trans hc5) (by decide)
  · refine lv_iload_n hx hb dA_wins_8 rfl (lv_at hl 2 rfl) ?_
    refine lv_iconst (v := 1) hx hb dA_wins_9 (by decide) ?_
    refine lv_icmp_eq (tgt := 23) hx hb dA_wins_10 (by decide) (fun hc6 => ?_) (fun hc6 => ?_)
    · refine lv_aload_n hx hb dA_wins_23 rfl (lv_at hl 0 rfl) ?_
      refine lv_iload_n hx hb dA_wins_24 rfl (lv_at hl 1 rfl) ?_
      refine px_V (cA_requireTaken l g T dk dn _ hst (se_in (by assumption))) rfl kA_A_requireTaken hS bl_xo hB (xo_rc hB) ⟨Nat.le_of_ble_eq_true rfl, Nat.le_of_ble_eq_true rfl⟩ hl.1 rfl (Nat.le_of_ble_eq_true rfl) ⟨Nat.le_of_ble_eq_true rfl, Nat.le_of_ble_eq_true rfl⟩ dA_wins_25 hout hlk (fun E h9 => ?_) (fun v hv => ?_)
      · obtain ⟨hc7, rfl⟩ := ri_then h9
        (try simp only [if_neg hc1, if_neg hc2, if_pos hc6, if_pos hc7]) <;> rfl
      obtain ⟨hc7, rfl⟩ := ri_else hv
      refine lv_aload_n hx hb dA_wins_28 rfl (lv_at hl 0 rfl) ?_
      refine px_V (cA_requireThreeOnBoard l g T dk dn  hst) rfl kA_A_requireThreeOnBoard hS bl_xo hB (xo_rc hB) ⟨Nat.le_of_ble_eq_true rfl, Nat.le_of_ble_eq_true rfl⟩ hl.1 rfl (Nat.le_of_ble_eq_true rfl) ⟨Nat.le_of_ble_eq_true rfl, Nat.le_of_ble_eq_true rfl⟩ dA_wins_29 hout hlk (fun E h9 => ?_) (fun v hv => ?_)
      · obtain ⟨hc8, rfl⟩ := ri_then h9
        (try simp only [if_neg hc1, if_neg hc2, if_pos hc6, if_neg hc7, if_pos hc8]) <;> rfl
      obtain ⟨hc8, rfl⟩ := ri_else hv
      refine lv_aload_n hx hb dA_wins_32 rfl (lv_at hl 0 rfl) ?_
      refine va_get (D := g.1) (ci := 0) (v := .ref (xo_t g)) (C := "HandTables") (T := T_A) (N := 3) hx hb hts (fun w hw => wd_in (u_inA w hw)) hown hK hP 0 rfl rfl 0 (by decide) (hts _ (wd_in (gw_mem 49 rfl rfl))) (fun _ h => h) rfl dA_wins_33 ?_
      refine lv_iload_n hx hb dA_wins_36 rfl (lv_at hl 1 rfl) ?_
      refine lv_iload_n hx hb dA_wins_37 rfl (lv_at hl 2 rfl) ?_
      refine lv_iconst (v := 1) hx hb dA_wins_38 (by decide) ?_
      refine lv_icmp_ne (tgt := 46) hx hb dA_wins_39 (by decide) (fun hc9 => ?_) (fun hc9 => ?_)
      · exact absurd hc6 hc9
      · refine lv_iconst (v := 1) hx hb dA_wins_42 (by decide) ?_
        refine lv_goto (tgt := 47) hx hb dA_wins_43 (by decide) ?_
        refine lv_aload_n hx hb dA_wins_47 rfl (lv_at hl 0 rfl) ?_
        refine va_get (D := g.1) (ci := 0) (v := .ref (xo_t g)) (C := "HandTables") (T := T_A) (N := 3) hx hb hts (fun w hw => wd_in (u_inA w hw)) hown hK hP 0 rfl rfl 0 (by decide) (hts _ (wd_in (gw_mem 49 rfl rfl))) (fun _ h => h) rfl dA_wins_48 ?_
        refine lv_bipush (v := 6) hx hb dA_wins_51 (by decide) ?_
        refine va_lald hx hb hK hP 1 0 rfl rfl (by unfold vp_in; decide) dA_wins_53 ?_
        refine lv_aload_n hx hb dA_wins_54 rfl (lv_at hl 0 rfl) ?_
        refine pu_V (cA_free l g T dk dn ) rfl kA_A_free hS bl_xo hB rfl (xo_rc hB) ⟨Nat.le_of_ble_eq_true rfl, Nat.le_of_ble_eq_true rfl⟩ hl.1 rfl (Nat.le_of_ble_eq_true rfl) ⟨Nat.zero_le _, Nat.zero_le _⟩ dA_wins_55 ?_
        refine lv_aload_n hx hb dA_wins_58 rfl (lv_at hl 0 rfl) ?_
        refine pu_V (cA_missing l g T dk dn ) rfl kA_A_missing hS bl_xo hB rfl (xo_rc hB) ⟨Nat.le_of_ble_eq_true rfl, Nat.le_of_ble_eq_true rfl⟩ hl.1 rfl (Nat.le_of_ble_eq_true rfl) ⟨Nat.zero_le _, Nat.zero_le _⟩ dA_wins_59 ?_
        refine lv_topi (fun xm exm => ?_)
        have exm : xm = nI 1 := exm.trans hb5
        subst exm
        refine pu_S (cA_countBoards_1 l g T dk dn _ _ _ _) rfl kA_A_countBoards hS bl_xo hB rfl ⟨Nat.le_of_ble_eq_true rfl, Nat.le_of_ble_eq_true rfl⟩ hl.1 rfl (Nat.le_of_ble_eq_true rfl) ⟨Nat.zero_le _, Nat.zero_le _⟩ dA_wins_62 ?_
        exact px_iret hx hb hr hlk dA_wins_65 (by (try simp only [if_neg hc1, if_neg hc2, if_pos hc6, if_neg hc7, if_neg hc8]) <;> rfl)
    · exact px_throw (cls := ex_IA) (text := "neither wins nor shares") hx hb hst hown hts hEx (by decide +kernel) (gw_mem 97 rfl rfl) (gw_mem 33 rfl rfl) (by decide) at_IA an_IA ag_IA (by rw [hml]; exact hl.1) dA_wins_13 dA_wins_16 dA_wins_17 dA_wins_19 dA_wins_22 hout (Nat.le_of_ble_eq_true rfl) (Nat.le_of_ble_eq_true rfl) (Nat.le_of_ble_eq_true rfl) (Nat.le_of_ble_eq_true rfl) hlk (by (try simp only [if_neg hc1, if_neg hc2, if_neg hc6]) <;> rfl)
set_option maxHeartbeats 4000000 in
set_option maxRecDepth 100000 in
theorem cA_wins_2 (l : Launch) (g : xo_E) (T : Nat → Int64) (dk : Nat → Int32) (dn : Int32) (k : Int32) (w : Int32) (hst : l.stackTraces = false) (hb5 : 5 - g_bs T = nI 2) : px_M l yA_wins bA_wins 3 (some .int) 9 [.ref (xo_a g), .int k, .int w] (xo_F g T dk dn) (if q_seat k then .inl ex_IO else if w = 0 then (if T k.toNatClampNeg = 0 then .inl ex_IS else if g_bs T < 3 then .inl ex_IS else r_i (g_cb T k 0 2 (T (6 : Int32).toNatClampNeg) (g_free T))) else if w = 1 then (if T k.toNatClampNeg = 0 then .inl ex_IS else if g_bs T < 3 then .inl ex_IS else r_i (g_cb T k 1 2 (T (6 : Int32).toNatClampNeg) (g_free T))) else .inl ex_IA) := by
  refine vx_ofW (cc := bA_wins) (maxL := 3) (ret := (some .int)) (by decide) rfl ?_
  intro p e s m args below meth c s₁ BB hml hout hv
  obtain ⟨rfl, hB⟩ := hv
  have hx := BB.exec
  have hb := BB.bytes
  have hr := BB.returns
  have hlk := BB.notSynchronized
  have hts := atoms_spec (ws := wd yA_wins bA_wins 3 (some .int)) BB.pre
  have hown : s.vm.findClass "HandTables" = some m.cls := findClass_of_methodNamed BB.named
  have hS : CallFix p m c bA_wins 3 s _ (wd yA_wins bA_wins 3 (some .int)) "HandTables" := ⟨hx, hb, hml, hown, hts⟩
  obtain ⟨hTa, hEx, hP, hK⟩ := id hB
  obtain ⟨⟨t1, hT1⟩, ⟨t2, hT2⟩, ⟨t3, hT3⟩, ⟨t4, hT4⟩⟩ := id hTa
  have hl := lv_entry ([.ref (xo_a g), .int k, .int w]) (n := 3) (Nat.le_of_ble_eq_true rfl)
  rw [lg_entry_eq]
  generalize (lg_sl ([.ref (xo_a g), .int k, .int w]) ++ List.replicate (3 - (lg_sl ([.ref (xo_a g), .int k, .int w])).length) Slot.unset).toArray = ls at hl ⊢
  have hl : lv_has ls 3 [(0, .ref (xo_a g)), (1, .int k), (2, .int w)] := hl
  refine lv_iload_n hx hb dA_wins_0 rfl (lv_at hl 1 rfl) ?_
  refine px_S (cA_requireSeat l _ hst) rfl kA_A_requireSeat hS bl_ex hEx ⟨Nat.le_of_ble_eq_true rfl, Nat.le_of_ble_eq_true rfl⟩ hl.1 rfl (Nat.le_of_ble_eq_true rfl) ⟨Nat.le_of_ble_eq_true rfl, Nat.le_of_ble_eq_true rfl⟩ dA_wins_1 hout hlk (fun E h9 => ?_) (fun v hv => ?_)
  · obtain ⟨hc1, rfl⟩ := ri_then h9
    (try simp only [if_pos hc1]) <;> rfl
  obtain ⟨hc1, rfl⟩ := ri_else hv
  refine lv_iload_n hx hb dA_wins_4 rfl (lv_at hl 2 rfl) ?_
  refine lv_if_eq (tgt := 23) hx hb dA_wins_5 (by decide) (fun hc2 => ?_) (fun hc2 => ?_)
  · refine lv_aload_n hx hb dA_wins_23 rfl (lv_at hl 0 rfl) ?_
    refine lv_iload_n hx hb dA_wins_24 rfl (lv_at hl 1 rfl) ?_
    refine px_V (cA_requireTaken l g T dk dn _ hst (se_in (by assumption))) rfl kA_A_requireTaken hS bl_xo hB (xo_rc hB) ⟨Nat.le_of_ble_eq_true rfl, Nat.le_of_ble_eq_true rfl⟩ hl.1 rfl (Nat.le_of_ble_eq_true rfl) ⟨Nat.le_of_ble_eq_true rfl, Nat.le_of_ble_eq_true rfl⟩ dA_wins_25 hout hlk (fun E h9 => ?_) (fun v hv => ?_)
    · obtain ⟨hc3, rfl⟩ := ri_then h9
      (try simp only [if_neg hc1, if_pos hc2, if_pos hc3]) <;> rfl
    obtain ⟨hc3, rfl⟩ := ri_else hv
    refine lv_aload_n hx hb dA_wins_28 rfl (lv_at hl 0 rfl) ?_
    refine px_V (cA_requireThreeOnBoard l g T dk dn  hst) rfl kA_A_requireThreeOnBoard hS bl_xo hB (xo_rc hB) ⟨Nat.le_of_ble_eq_true rfl, Nat.le_of_ble_eq_true rfl⟩ hl.1 rfl (Nat.le_of_ble_eq_true rfl) ⟨Nat.le_of_ble_eq_true rfl, Nat.le_of_ble_eq_true rfl⟩ dA_wins_29 hout hlk (fun E h9 => ?_) (fun v hv => ?_)
    · obtain ⟨hc4, rfl⟩ := ri_then h9
      (try simp only [if_neg hc1, if_pos hc2, if_neg hc3, if_pos hc4]) <;> rfl
    obtain ⟨hc4, rfl⟩ := ri_else hv
    refine lv_aload_n hx hb dA_wins_32 rfl (lv_at hl 0 rfl) ?_
    refine va_get (D := g.1) (ci := 0) (v := .ref (xo_t g)) (C := "HandTables") (T := T_A) (N := 3) hx hb hts (fun w hw => wd_in (u_inA w hw)) hown hK hP 0 rfl rfl 0 (by decide) (hts _ (wd_in (gw_mem 49 rfl rfl))) (fun _ h => h) rfl dA_wins_33 ?_
    refine lv_iload_n hx hb dA_wins_36 rfl (lv_at hl 1 rfl) ?_
    refine lv_iload_n hx hb dA_wins_37 rfl (lv_at hl 2 rfl) ?_
    refine lv_iconst (v := 1) hx hb dA_wins_38 (by decide) ?_
    refine lv_icmp_ne (tgt := 46) hx hb dA_wins_39 (by decide) (fun hc5 => ?_) (fun hc5 => ?_)
    · refine lv_iconst (v := 0) hx hb dA_wins_46 (by decide) ?_
      refine lv_aload_n hx hb dA_wins_47 rfl (lv_at hl 0 rfl) ?_
      refine va_get (D := g.1) (ci := 0) (v := .ref (xo_t g)) (C := "HandTables") (T := T_A) (N := 3) hx hb hts (fun w hw => wd_in (u_inA w hw)) hown hK hP 0 rfl rfl 0 (by decide) (hts _ (wd_in (gw_mem 49 rfl rfl))) (fun _ h => h) rfl dA_wins_48 ?_
      refine lv_bipush (v := 6) hx hb dA_wins_51 (by decide) ?_
      refine va_lald hx hb hK hP 1 0 rfl rfl (by unfold vp_in; decide) dA_wins_53 ?_
      refine lv_aload_n hx hb dA_wins_54 rfl (lv_at hl 0 rfl) ?_
      refine pu_V (cA_free l g T dk dn ) rfl kA_A_free hS bl_xo hB rfl (xo_rc hB) ⟨Nat.le_of_ble_eq_true rfl, Nat.le_of_ble_eq_true rfl⟩ hl.1 rfl (Nat.le_of_ble_eq_true rfl) ⟨Nat.zero_le _, Nat.zero_le _⟩ dA_wins_55 ?_
      refine lv_aload_n hx hb dA_wins_58 rfl (lv_at hl 0 rfl) ?_
      refine pu_V (cA_missing l g T dk dn ) rfl kA_A_missing hS bl_xo hB rfl (xo_rc hB) ⟨Nat.le_of_ble_eq_true rfl, Nat.le_of_ble_eq_true rfl⟩ hl.1 rfl (Nat.le_of_ble_eq_true rfl) ⟨Nat.zero_le _, Nat.zero_le _⟩ dA_wins_59 ?_
      refine lv_topi (fun xm exm => ?_)
      have exm : xm = nI 2 := exm.trans hb5
      subst exm
      refine pu_S (cA_countBoards_2 l g T dk dn _ _ _ _) rfl kA_A_countBoards hS bl_xo hB rfl ⟨Nat.le_of_ble_eq_true rfl, Nat.le_of_ble_eq_true rfl⟩ hl.1 rfl (Nat.le_of_ble_eq_true rfl) ⟨Nat.zero_le _, Nat.zero_le _⟩ dA_wins_62 ?_
      exact px_iret hx hb hr hlk dA_wins_65 (by (try simp only [if_neg hc1, if_pos hc2, if_neg hc3, if_neg hc4]) <;> rfl)
    · exact absurd (hc2.symm.trans hc5) (by decide)
  · refine lv_iload_n hx hb dA_wins_8 rfl (lv_at hl 2 rfl) ?_
    refine lv_iconst (v := 1) hx hb dA_wins_9 (by decide) ?_
    refine lv_icmp_eq (tgt := 23) hx hb dA_wins_10 (by decide) (fun hc6 => ?_) (fun hc6 => ?_)
    · refine lv_aload_n hx hb dA_wins_23 rfl (lv_at hl 0 rfl) ?_
      refine lv_iload_n hx hb dA_wins_24 rfl (lv_at hl 1 rfl) ?_
      refine px_V (cA_requireTaken l g T dk dn _ hst (se_in (by assumption))) rfl kA_A_requireTaken hS bl_xo hB (xo_rc hB) ⟨Nat.le_of_ble_eq_true rfl, Nat.le_of_ble_eq_true rfl⟩ hl.1 rfl (Nat.le_of_ble_eq_true rfl) ⟨Nat.le_of_ble_eq_true rfl, Nat.le_of_ble_eq_true rfl⟩ dA_wins_25 hout hlk (fun E h9 => ?_) (fun v hv => ?_)
      · obtain ⟨hc7, rfl⟩ := ri_then h9
        (try simp only [if_neg hc1, if_neg hc2, if_pos hc6, if_pos hc7]) <;> rfl
      obtain ⟨hc7, rfl⟩ := ri_else hv
      refine lv_aload_n hx hb dA_wins_28 rfl (lv_at hl 0 rfl) ?_
      refine px_V (cA_requireThreeOnBoard l g T dk dn  hst) rfl kA_A_requireThreeOnBoard hS bl_xo hB (xo_rc hB) ⟨Nat.le_of_ble_eq_true rfl, Nat.le_of_ble_eq_true rfl⟩ hl.1 rfl (Nat.le_of_ble_eq_true rfl) ⟨Nat.le_of_ble_eq_true rfl, Nat.le_of_ble_eq_true rfl⟩ dA_wins_29 hout hlk (fun E h9 => ?_) (fun v hv => ?_)
      · obtain ⟨hc8, rfl⟩ := ri_then h9
        (try simp only [if_neg hc1, if_neg hc2, if_pos hc6, if_neg hc7, if_pos hc8]) <;> rfl
      obtain ⟨hc8, rfl⟩ := ri_else hv
      refine lv_aload_n hx hb dA_wins_32 rfl (lv_at hl 0 rfl) ?_
      refine va_get (D := g.1) (ci := 0) (v := .ref (xo_t g)) (C := "HandTables") (T := T_A) (N := 3) hx hb hts (fun w hw => wd_in (u_inA w hw)) hown hK hP 0 rfl rfl 0 (by decide) (hts _ (wd_in (gw_mem 49 rfl rfl))) (fun _ h => h) rfl dA_wins_33 ?_
      refine lv_iload_n hx hb dA_wins_36 rfl (lv_at hl 1 rfl) ?_
      refine lv_iload_n hx hb dA_wins_37 rfl (lv_at hl 2 rfl) ?_
      refine lv_iconst (v := 1) hx hb dA_wins_38 (by decide) ?_
      refine lv_icmp_ne (tgt := 46) hx hb dA_wins_39 (by decide) (fun hc9 => ?_) (fun hc9 => ?_)
      · exact absurd hc6 hc9
      · refine lv_iconst (v := 1) hx hb dA_wins_42 (by decide) ?_
        refine lv_goto (tgt := 47) hx hb dA_wins_43 (by decide) ?_
        refine lv_aload_n hx hb dA_wins_47 rfl (lv_at hl 0 rfl) ?_
        refine va_get (D := g.1) (ci := 0) (v := .ref (xo_t g)) (C := "HandTables") (T := T_A) (N := 3) hx hb hts (fun w hw => wd_in (u_inA w hw)) hown hK hP 0 rfl rfl 0 (by decide) (hts _ (wd_in (gw_mem 49 rfl rfl))) (fun _ h => h) rfl dA_wins_48 ?_
        refine lv_bipush (v := 6) hx hb dA_wins_51 (by decide) ?_
        refine va_lald hx hb hK hP 1 0 rfl rfl (by unfold vp_in; decide) dA_wins_53 ?_
        refine lv_aload_n hx hb dA_wins_54 rfl (lv_at hl 0 rfl) ?_
        refine pu_V (cA_free l g T dk dn ) rfl kA_A_free hS bl_xo hB rfl (xo_rc hB) ⟨Nat.le_of_ble_eq_true rfl, Nat.le_of_ble_eq_true rfl⟩ hl.1 rfl (Nat.le_of_ble_eq_true rfl) ⟨Nat.zero_le _, Nat.zero_le _⟩ dA_wins_55 ?_
        refine lv_aload_n hx hb dA_wins_58 rfl (lv_at hl 0 rfl) ?_
        refine pu_V (cA_missing l g T dk dn ) rfl kA_A_missing hS bl_xo hB rfl (xo_rc hB) ⟨Nat.le_of_ble_eq_true rfl, Nat.le_of_ble_eq_true rfl⟩ hl.1 rfl (Nat.le_of_ble_eq_true rfl) ⟨Nat.zero_le _, Nat.zero_le _⟩ dA_wins_59 ?_
        refine lv_topi (fun xm exm => ?_)
        have exm : xm = nI 2 := exm.trans hb5
        subst exm
        refine pu_S (cA_countBoards_2 l g T dk dn _ _ _ _) rfl kA_A_countBoards hS bl_xo hB rfl ⟨Nat.le_of_ble_eq_true rfl, Nat.le_of_ble_eq_true rfl⟩ hl.1 rfl (Nat.le_of_ble_eq_true rfl) ⟨Nat.zero_le _, Nat.zero_le _⟩ dA_wins_62 ?_
        exact px_iret hx hb hr hlk dA_wins_65 (by (try simp only [if_neg hc1, if_neg hc2, if_pos hc6, if_neg hc7, if_neg hc8]) <;> rfl)
    · exact px_throw (cls := ex_IA) (text := "neither wins nor shares") hx hb hst hown hts hEx (by decide +kernel) (gw_mem 97 rfl rfl) (gw_mem 33 rfl rfl) (by decide) at_IA an_IA ag_IA (by rw [hml]; exact hl.1) dA_wins_13 dA_wins_16 dA_wins_17 dA_wins_19 dA_wins_22 hout (Nat.le_of_ble_eq_true rfl) (Nat.le_of_ble_eq_true rfl) (Nat.le_of_ble_eq_true rfl) (Nat.le_of_ble_eq_true rfl) hlk (by (try simp only [if_neg hc1, if_neg hc2, if_neg hc6]) <;> rfl)
