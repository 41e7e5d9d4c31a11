/-! the model: who leads -/
def kq_n (b : Nat) (k1 k2 : Int32) : Nat := 2 + b + (if k1 < 0 then 0 else 1) + (if k2 < 0 then 0 else 1)
def kq_h (h f : Nat → Int32) (b : Nat) (q k1 k2 : Int32) (i : Nat) : Int32 := if i = 0 then h (2 * q).toNatClampNeg else if i = 1 then h (2 * q + 1).toNatClampNeg else if i < 2 + b then f (i - 2) else if i = 2 + b then (if k1 < 0 then k2 else k1) else k2
/-- the best key of seat q, with the cards k1 and k2 (where they are cards) put onto the board -/
def k_sk (h f : Nat → Int32) (b : Nat) (k1 k2 q : Int32) : Int32 := k_best (kq_h h f b q k1 k2) (kq_n b k1 k2)
theorem kq_0 {f H : Nat → Int32} {x y : Int32} (h0 : H 0 = x) (h1 : H 1 = y) : k_ag (2 + 0) (upd (upd f (0 : Int32).toNatClampNeg x) (1 : Int32).toNatClampNeg y) H := by
  intro i hi
  have : i = 0 ∨ i = 1 := by omega
  rcases this with e | e
  · subst e
    show upd (upd f 0 x) 1 y 0 = H 0
    rw [pk_un (by decide), pk_us, h0]
  · subst e
    show upd (upd f 0 x) 1 y 1 = H 1
    rw [pk_us, h1]
theorem kq_ag {m : Nat} {f H : Nat → Int32} {x z : Int32} (hz : z = nI m) (hm : m < 2 ^ 31) (hg : k_ag m f H) (hx : H m = x) : k_ag (m + 1) (upd f z.toNatClampNeg x) H := by
  intro i hi
  rw [hz, nI_clamp hm]
  by_cases e : i = m
  · subst e; rw [pk_us, hx]
  · rw [pk_un e]; exact hg i (by omega)
theorem kq_hb {h f : Nat → Int32} {b j : Nat} {q k1 k2 : Int32} (hj : j < b) (hb : b ≤ 5) : kq_h h f b q k1 k2 (2 + j) = f (nI j).toNatClampNeg := by
  rw [nI_clamp (by omega)]
  unfold kq_h
  rw [if_neg (by omega), if_neg (by omega), if_pos (by omega)]
  congr 1
  omega
theorem kq_h1 {h f : Nat → Int32} {b : Nat} {q k1 k2 : Int32} (h1 : ¬ k1 < 0) : kq_h h f b q k1 k2 (2 + b) = k1 := by
  unfold kq_h
  rw [if_neg (by omega), if_neg (by omega), if_neg (by omega), if_pos rfl, if_neg h1]
theorem kq_h2 {h f : Nat → Int32} {b : Nat} {q k1 k2 : Int32} (h1 : k1 < 0) : kq_h h f b q k1 k2 (2 + b) = k2 := by
  unfold kq_h
  rw [if_neg (by omega), if_neg (by omega), if_neg (by omega), if_pos rfl, if_pos h1]
theorem kq_h3 {h f : Nat → Int32} {b : Nat} {q k1 k2 : Int32} : kq_h h f b q k1 k2 (2 + b + 1) = k2 := by
  unfold kq_h
  rw [if_neg (by omega), if_neg (by omega), if_neg (by omega), if_neg (by omega)]
theorem kq_ok {h f : Nat → Int32} {b : Nat} {q k1 k2 : Int32} (h1 : vp_in (h (2 * q).toNatClampNeg) 52) (h2 : vp_in (h (2 * q + 1).toNatClampNeg) 52) (hf : ∀ i, i < b → vp_in (f i) 52) (hk1 : k1 < 0 ∨ vp_in k1 52) (hk2 : k2 < 0 ∨ vp_in k2 52) (i : Nat) (hi : i < kq_n b k1 k2) : vp_in (kq_h h f b q k1 k2 i) 52 := by
  unfold kq_n at hi
  unfold kq_h
  split
  · exact h1
  · split
    · exact h2
    · split
      · exact hf _ (by omega)
      · split
        · split
          · rename_i g1 g2 g3 g4 g5
            rw [if_pos g5] at hi
            refine hk2.resolve_left (fun z => ?_)
            rw [if_pos z] at hi
            omega
          · rename_i g5
            exact hk1.resolve_left g5
        · rename_i g1 g2 g3 g4
          refine hk2.resolve_left (fun z => ?_)
          rw [if_pos z] at hi
          split at hi <;> omega
theorem kq_n0 {b : Nat} (h : b ≤ 5) : kq_n b (-1) (-1) ≤ 7 := by
  unfold kq_n
  rw [if_pos (by decide)]
  omega
theorem kq_n1 {b : Nat} {k : Int32} (h : b ≤ 4) : kq_n b k (-1) ≤ 7 := by
  unfold kq_n
  rw [if_pos (show (-1 : Int32) < 0 by decide)]
  split <;> omega
theorem kq_n2 {b : Nat} {k1 k2 : Int32} (h : b ≤ 3) : kq_n b k1 k2 ≤ 7 := by
  unfold kq_n
  split <;> split <;> omega
theorem k_2n1 {j : Nat} (h : j < 6) : vp_in (2 * nI j + 1) 12 := by
  rw [show 2 * nI j = nI (2 * j) from pk_mul 2 j, nI_1]
  exact vp_in_nI (by omega) (by decide)
abbrev k_hse (h : Nat → Int32) : Prop := ∀ j, j < 6 → h (2 * nI j).toNatClampNeg = -1 ∨ (vp_in (h (2 * nI j).toNatClampNeg) 52 ∧ vp_in (h (2 * nI j + 1).toNatClampNeg) 52)
theorem k_hseq {h : Nat → Int32} {q : Int32} (hh : k_hse h) (hq : vp_in q 6) (hn : ¬ h (2 * q).toNatClampNeg = -1) : vp_in (h (2 * q).toNatClampNeg) 52 ∧ vp_in (h (2 * q + 1).toNatClampNeg) 52 := by
  obtain ⟨j, hj, e⟩ := vp_in_of hq (by decide)
  rw [e] at hn ⊢
  exact (hh j hj).resolve_left hn
def kl_lp (h f : Nat → Int32) (b : Nat) (k1 k2 : Int32) : Nat → Int32 → Int32 → Int32 × Int32
  | 0, m, a => (m, a)
  | n + 1, m, a => if h (2 * nI (6 - (n + 1))).toNatClampNeg = -1 then kl_lp h f b k1 k2 n m a else if k_sk h f b k1 k2 (nI (6 - (n + 1))) ≤ m then (if k_sk h f b k1 k2 (nI (6 - (n + 1))) = m then kl_lp h f b k1 k2 n m (a ||| jli 1 (nI (6 - (n + 1)))) else kl_lp h f b k1 k2 n m a) else kl_lp h f b k1 k2 n (k_sk h f b k1 k2 (nI (6 - (n + 1)))) (0 ||| jli 1 (nI (6 - (n + 1))))
/-- the seats (as bits) whose key is the greatest -/
def k_lead (h f : Nat → Int32) (b : Nat) (k1 k2 : Int32) : Int32 := (kl_lp h f b k1 k2 6 (-1) 0).2
set_option maxHeartbeats 4000000 in
set_option maxRecDepth 100000 in
theorem cM_keyOfSeat (l : Launch) (g : mo_E) (th : Int32) (ks : Nat → Int32) (kc : Int32) (rn : Nat → Int32) (oc : Nat → Int32) (hd : Nat → Int32) (hs : Int32) (se : Nat → Int32) (bd : Nat → Int32) (b : Nat) (dk : Nat → Int32) (dp : Int32) (ct : Int32) (bo : Int32) (wi : Nat → Int32) (sh : Nat → Int32) (lf : Nat → Int32) (lc : Int32) (mo : Int32) (ah : Int32) (q : Int32) (k1 : Int32) (k2 : Int32)  (hap : mo_ap g) (hb5 : b ≤ 5) (hbd : ∀ i, i < b → vp_in (bd i) 52) (hq1 : vp_in (2 * q) 12) (hq2 : vp_in (2 * q + 1) 12) (hv1 : vp_in (se (2 * q).toNatClampNeg) 52) (hv2 : vp_in (se (2 * q + 1).toNatClampNeg) 52) (hk1 : k1 < 0 ∨ vp_in k1 52) (hk2 : k2 < 0 ∨ vp_in k2 52) (hN : kq_n b k1 k2 ≤ 7) : mm_M l yM_keyOfSeat bM_keyOfSeat 5 (some .int) 4 [.ref (g.2.2 0), .int q, .int k1, .int k2] g (th, ks, kc, rn, oc, hd, hs, se, bd, (nI b), dk, dp, ct, bo, wi, sh, lf, lc, mo, ah) (fun v9 S9 => v9 = some (.int (k_sk se bd b k1 k2 q)) ∧ ∃ (rn' : Nat → Int32) (oc' : Nat → Int32) (hd' : Nat → Int32) (hs' : Int32), S9 = (th, ks, kc, rn', oc', hd', hs', se, bd, (nI b), dk, dp, ct, bo, wi, sh, lf, lc, mo, ah)) := by
  refine Met.ofW (cc := bM_keyOfSeat) (maxL := 5) (ret := (some .int)) (by decide) rfl ?_
  intro p e s m args below meth c s₁ BB hml hv
  obtain ⟨rfl, hB⟩ := hv
  have hx := BB.exec
  have hb := BB.bytes
  have hr := BB.returns
  have hlk := BB.notSynchronized
  have hts := atoms_spec (ws := wd yM_keyOfSeat bM_keyOfSeat 5 (some .int)) BB.pre
  have hown : s.vm.findClass "HandTablesModel" = some m.cls := findClass_of_methodNamed BB.named
  have hS : CallFix p m c bM_keyOfSeat 5 s _ (wd yM_keyOfSeat bM_keyOfSeat 5 (some .int)) "HandTablesModel" := ⟨hx, hb, hml, hown, hts⟩
  obtain ⟨hP, hK⟩ := hB
  have hP : va_P g.1 cl_X (mo_V g th ks kc rn oc hd hs se bd (nI b) dk dp ct bo wi sh lf lc mo ah) s.heap := hP
  have hSS : va_S (mo_fr g) s.heap s.heap [] := va_S.rf
  have hl := lv_entry ([.ref (g.2.2 0), .int q, .int k1, .int k2]) (n := 5) (Nat.le_of_ble_eq_true rfl)
  rw [lg_entry_eq]
  generalize (lg_sl ([.ref (g.2.2 0), .int q, .int k1, .int k2]) ++ List.replicate (5 - (lg_sl ([.ref (g.2.2 0), .int q, .int k1, .int k2])).length) Slot.unset).toArray = ls at hl ⊢
  have hl : lv_has ls 5 [(0, .ref (g.2.2 0)), (1, .int q), (2, .int k1), (3, .int k2)] := hl
  obtain ⟨H, eH⟩ : ∃ H, s.heap = H := ⟨_, rfl⟩
  obtain ⟨locs, eL⟩ : ∃ L, ([] : List Loc) = L := ⟨_, rfl⟩
  have hP : va_P g.1 cl_X (mo_V g th ks kc rn oc hd hs se bd (nI b) dk dp ct bo wi sh lf lc mo ah) H := by rw [← eH]; exact hP
  have hSS : va_S (mo_fr g) s.heap H locs := by rw [← eH, ← eL]; exact hSS
  refine mm_go eH eL ?_
  clear eH eL
  refine lv_aload_n hx hb dM_keyOfSeat_0 rfl (lv_at hl 0 rfl) ?_
  refine va_get (D := g.1) (ci := 1) (v := .ref (g.2.2 4)) (C := "HandTablesModel") (T := T_M) (N := 20) hx hb hts (fun w hw => wd_in (u_inM w hw)) hown hK hP 0 rfl rfl 5 (by decide) (hts _ (wd_in (gw_mem 462 rfl rfl))) (fun _ h => h) rfl dM_keyOfSeat_1 ?_
  refine lv_iconst (v := 0) hx hb dM_keyOfSeat_4 (by decide) ?_
  refine lv_aload_n hx hb dM_keyOfSeat_5 rfl (lv_at hl 0 rfl) ?_
  refine va_get (D := g.1) (ci := 1) (v := .ref (g.2.2 5)) (C := "HandTablesModel") (T := T_M) (N := 20) hx hb hts (fun w hw => wd_in (u_inM w hw)) hown hK hP 0 rfl rfl 7 (by decide) (hts _ (wd_in (gw_mem 464 rfl rfl))) (fun _ h => h) rfl dM_keyOfSeat_6 ?_
  refine lv_iconst (v := 2) hx hb dM_keyOfSeat_9 (by decide) ?_
  refine lv_iload_n hx hb dM_keyOfSeat_10 rfl (lv_at hl 1 rfl) ?_
  refine lv_imul hx hb dM_keyOfSeat_11 ?_
  refine va_iald hx hb hK hP 5 0 rfl rfl hq1 dM_keyOfSeat_12 ?_
  refine va_iast (x := (se ((2 * q) : Int32).toNatClampNeg)) hx hb hK hP (mo_D hap) hSS 4 0 rfl rfl (by unfold vp_in; decide) dM_keyOfSeat_13 (fun H locs hP _ hSS => ?_)
  have hP : va_P g.1 cl_X (mo_V g th ks kc rn oc (upd hd (0 : Int32).toNatClampNeg (se ((2 * q) : Int32).toNatClampNeg)) hs se bd (nI b) dk dp ct bo wi sh lf lc mo ah) H := hP
  refine lv_aload_n hx hb dM_keyOfSeat_14 rfl (lv_at hl 0 rfl) ?_
  refine va_get (D := g.1) (ci := 1) (v := .ref (g.2.2 4)) (C := "HandTablesModel") (T := T_M) (N := 20) hx hb hts (fun w hw => wd_in (u_inM w hw)) hown hK hP 0 rfl rfl 5 (by decide) (hts _ (wd_in (gw_mem 462 rfl rfl))) (fun _ h => h) rfl dM_keyOfSeat_15 ?_
  refine lv_iconst (v := 1) hx hb dM_keyOfSeat_18 (by decide) ?_
  refine lv_aload_n hx hb dM_keyOfSeat_19 rfl (lv_at hl 0 rfl) ?_
  refine va_get (D := g.1) (ci := 1) (v := .ref (g.2.2 5)) (C := "HandTablesModel") (T := T_M) (N := 20) hx hb hts (fun w hw => wd_in (u_inM w hw)) hown hK hP 0 rfl rfl 7 (by decide) (hts _ (wd_in (gw_mem 464 rfl rfl))) (fun _ h => h) rfl dM_keyOfSeat_20 ?_
  refine lv_iconst (v := 2) hx hb dM_keyOfSeat_23 (by decide) ?_
  refine lv_iload_n hx hb dM_keyOfSeat_24 rfl (lv_at hl 1 rfl) ?_
  refine lv_imul hx hb dM_keyOfSeat_25 ?_
  refine lv_iconst (v := 1) hx hb dM_keyOfSeat_26 (by decide) ?_
  refine lv_iadd hx hb dM_keyOfSeat_27 ?_
  refine va_iald hx hb hK hP 5 0 rfl rfl hq2 dM_keyOfSeat_28 ?_
  refine va_iast (x := (se (((2 * q) + 1) : Int32).toNatClampNeg)) hx hb hK hP (mo_D hap) hSS 4 0 rfl rfl (by unfold vp_in; decide) dM_keyOfSeat_29 (fun H locs hP _ hSS => ?_)
  have hP : va_P g.1 cl_X (mo_V g th ks kc rn oc (upd (upd hd (0 : Int32).toNatClampNeg (se ((2 * q) : Int32).toNatClampNeg)) (1 : Int32).toNatClampNeg (se (((2 * q) + 1) : Int32).toNatClampNeg)) hs se bd (nI b) dk dp ct bo wi sh lf lc mo ah) H := hP
  refine lv_aload_n hx hb dM_keyOfSeat_30 rfl (lv_at hl 0 rfl) ?_
  refine lv_iconst (v := 2) hx hb dM_keyOfSeat_31 (by decide) ?_
  refine va_put (D := g.1) (ci := 1) (v := .int 2) (ty := .int) (C := "HandTablesModel") (T := T_M) (N := 20) hx hb hts (fun w hw => wd_in (u_inM w hw)) tf_M tf_M_ok n_M hown hK hP (mo_D hap) hSS 0 rfl rfl 6 (by decide) (hts _ (wd_in (gw_mem 463 rfl rfl))) (fun _ h => h) rfl (by decide +kernel) rfl rfl (Nat.le_of_ble_eq_true rfl) dM_keyOfSeat_32 (fun H locs hP _ hSS => ?_)
  have hP : va_P g.1 cl_X (mo_V g th ks kc rn oc (upd (upd hd (0 : Int32).toNatClampNeg (se ((2 * q) : Int32).toNatClampNeg)) (1 : Int32).toNatClampNeg (se (((2 * q) + 1) : Int32).toNatClampNeg)) 2 se bd (nI b) dk dp ct bo wi sh lf lc mo ah) H := hP
  refine lv_iconst (v := 0) hx hb dM_keyOfSeat_35 (by decide) ?_
  refine jt_topi (fun x1 ex1 => ?_)
  refine lv_istore (lv' := [(4, .int x1), (0, .ref (g.2.2 0)), (1, .int q), (2, .int k1), (3, .int k2)]) hx hb dM_keyOfSeat_36 hl (by decide) rfl (fun ls hl => ?_)
  have hloop : ∀ (n : Nat)   (whd2 : Nat → Int32) (whs2 : Int32) (H : Heap) (locs : List Loc) (ls : Array Slot), lv_has ls 5 [(4, .int (nI (b - n))), (3, .int k2), (2, .int k1), (1, .int q), (0, .ref (g.2.2 0))] → va_P g.1 cl_X (mo_V g th ks kc rn oc whd2 whs2 se bd (nI b) dk dp ct bo wi sh lf lc mo ah) H → va_S (mo_fr g) s.heap H locs → (n ≤ b) → (whs2 = nI (2 + (b - n))) → (k_ag (2 + (b - n)) whd2 (kq_h se bd b q k1 k2)) → (∀ (hd' : Nat → Int32) (hs' : Int32) (H : Heap) (locs : List Loc) (ls : Array Slot), lv_has ls 5 [(3, .int k2), (2, .int k1), (1, .int q), (0, .ref (g.2.2 0))] → va_P g.1 cl_X (mo_V g th ks kc rn oc hd' hs' se bd (nI b) dk dp ct bo wi sh lf lc mo ah) H → va_S (mo_fr g) s.heap H locs → (hs' = nI (2 + b)) → (k_ag (2 + b) hd' (kq_h se bd b q k1 k2)) → W p l e (headSpec (wd yM_keyOfSeat bM_keyOfSeat 5 (some .int)) (rmD 4 0 0)).room s m ([.ref (g.2.2 0), .int q, .int k1, .int k2]).toArray below meth c H locs 0 0 (MQ below (mm_Q g (fun v9 S9 => v9 = some (.int (k_sk se bd b k1 k2 q)) ∧ ∃ (rn' : Nat → Int32) (oc' : Nat → Int32) (hd' : Nat → Int32) (hs' : Int32), S9 = (th, ks, kc, rn', oc', hd', hs', se, bd, (nI b), dk, dp, ct, bo, wi, sh, lf, lc, mo, ah))) ([.ref (g.2.2 0), .int q, .int k1, .int k2]).toArray s 0 0 (mo_fr g)) (F0 m 79 ls [])) → W p l e (headSpec (wd yM_keyOfSeat bM_keyOfSeat 5 (some .int)) (rmD 4 0 0)).room s m ([.ref (g.2.2 0), .int q, .int k1, .int k2]).toArray below meth c H locs 0 0 (MQ below (mm_Q g (fun v9 S9 => v9 = some (.int (k_sk se bd b k1 k2 q)) ∧ ∃ (rn' : Nat → Int32) (oc' : Nat → Int32) (hd' : Nat → Int32) (hs' : Int32), S9 = (th, ks, kc, rn', oc', hd', hs', se, bd, (nI b), dk, dp, ct, bo, wi, sh, lf, lc, mo, ah))) ([.ref (g.2.2 0), .int q, .int k1, .int k2]).toArray s 0 0 (mo_fr g)) (F0 m 38 ls []) := by
    intro n
    induction n with
    | zero =>
      intro   whd2 whs2 H locs ls hl hP hSS hn hz hg K
      refine lv_iload hx hb dM_keyOfSeat_38 (lv_at hl 0 rfl) ?_
      refine lv_aload_n hx hb dM_keyOfSeat_40 rfl (lv_at hl 4 rfl) ?_
      refine va_get (D := g.1) (ci := 1) (v := .int (nI b)) (C := "HandTablesModel") (T := T_M) (N := 20) hx hb hts (fun w hw => wd_in (u_inM w hw)) hown hK hP 0 rfl rfl 9 (by decide) (hts _ (wd_in (gw_mem 466 rfl rfl))) (fun _ h => h) rfl dM_keyOfSeat_41 ?_
      refine lv_icmp_ge (tgt := 79) hx hb dM_keyOfSeat_44 (by decide) (fun hc3 => ?_) (fun hc3 => ?_)
      · have hlB := lv_sub hl [1, 2, 3, 4] rfl
        have hPB := hP
        have hSB := hSS
        exact K _ _ _ _ _ hlB hPB hSB hz hg
      · exact absurd (show nI b ≤ nI (b - 0) from Int32.le_refl _) hc3
    | succ n ih =>
      intro   whd2 whs2 H locs ls hl hP hSS hn hz hg K
      refine lv_iload hx hb dM_keyOfSeat_38 (lv_at hl 0 rfl) ?_
      refine lv_aload_n hx hb dM_keyOfSeat_40 rfl (lv_at hl 4 rfl) ?_
      refine va_get (D := g.1) (ci := 1) (v := .int (nI b)) (C := "HandTablesModel") (T := T_M) (N := 20) hx hb hts (fun w hw => wd_in (u_inM w hw)) hown hK hP 0 rfl rfl 9 (by decide) (hts _ (wd_in (gw_mem 466 rfl rfl))) (fun _ h => h) rfl dM_keyOfSeat_41 ?_
      refine lv_icmp_ge (tgt := 79) hx hb dM_keyOfSeat_44 (by decide) (fun hc4 => ?_) (fun hc4 => ?_)
      · exact absurd hc4 (nI_ge (by omega) (by omega))
      · refine lv_aload_n hx hb dM_keyOfSeat_47 rfl (lv_at hl 4 rfl) ?_
        refine va_get (D := g.1) (ci := 1) (v := .ref (g.2.2 4)) (C := "HandTablesModel") (T := T_M) (N := 20) hx hb hts (fun w hw => wd_in (u_inM w hw)) hown hK hP 0 rfl rfl 5 (by decide) (hts _ (wd_in (gw_mem 462 rfl rfl))) (fun _ h => h) rfl dM_keyOfSeat_48 ?_
        refine lv_aload_n hx hb dM_keyOfSeat_51 rfl (lv_at hl 4 rfl) ?_
        refine va_get (D := g.1) (ci := 1) (v := .int whs2) (C := "HandTablesModel") (T := T_M) (N := 20) hx hb hts (fun w hw => wd_in (u_inM w hw)) hown hK hP 0 rfl rfl 6 (by decide) (hts _ (wd_in (gw_mem 463 rfl rfl))) (fun _ h => h) rfl dM_keyOfSeat_52 ?_
        refine lv_aload_n hx hb dM_keyOfSeat_55 rfl (lv_at hl 4 rfl) ?_
        refine va_get (D := g.1) (ci := 1) (v := .ref (g.2.2 6)) (C := "HandTablesModel") (T := T_M) (N := 20) hx hb hts (fun w hw => wd_in (u_inM w hw)) hown hK hP 0 rfl rfl 8 (by decide) (hts _ (wd_in (gw_mem 465 rfl rfl))) (fun _ h => h) rfl dM_keyOfSeat_56 ?_
        refine lv_iload hx hb dM_keyOfSeat_59 (lv_at hl 0 rfl) ?_
        refine va_iald hx hb hK hP 6 0 rfl rfl (vp_in_nI (by omega) (by decide)) dM_keyOfSeat_61 ?_
        refine va_iast (x := (bd ((nI (b - (n + 1))) : Int32).toNatClampNeg)) hx hb hK hP (mo_D hap) hSS 4 0 rfl rfl (by rw [hz]; exact vp_in_nI (by omega) (by decide)) dM_keyOfSeat_62 (fun H locs hP _ hSS => ?_)
        have hP : va_P g.1 cl_X (mo_V g th ks kc rn oc (upd whd2 (whs2 : Int32).toNatClampNeg (bd ((nI (b - (n + 1))) : Int32).toNatClampNeg)) whs2 se bd (nI b) dk dp ct bo wi sh lf lc mo ah) H := hP
        refine lv_aload_n hx hb dM_keyOfSeat_63 rfl (lv_at hl 4 rfl) ?_
        refine lv_dup hx hb dM_keyOfSeat_64 rfl ?_
        refine va_get (D := g.1) (ci := 1) (v := .int whs2) (C := "HandTablesModel") (T := T_M) (N := 20) hx hb hts (fun w hw => wd_in (u_inM w hw)) hown hK hP 0 rfl rfl 6 (by decide) (hts _ (wd_in (gw_mem 463 rfl rfl))) (fun _ h => h) rfl dM_keyOfSeat_65 ?_
        refine lv_iconst (v := 1) hx hb dM_keyOfSeat_68 (by decide) ?_
        refine lv_iadd hx hb dM_keyOfSeat_69 ?_
        refine va_put (D := g.1) (ci := 1) (v := .int (whs2 + 1)) (ty := .int) (C := "HandTablesModel") (T := T_M) (N := 20) hx hb hts (fun w hw => wd_in (u_inM w hw)) tf_M tf_M_ok n_M hown hK hP (mo_D hap) hSS 0 rfl rfl 6 (by decide) (hts _ (wd_in (gw_mem 463 rfl rfl))) (fun _ h => h) rfl (by decide +kernel) rfl rfl (Nat.le_of_ble_eq_true rfl) dM_keyOfSeat_70 (fun H locs hP _ hSS => ?_)
        have hP : va_P g.1 cl_X (mo_V g th ks kc rn oc (upd whd2 (whs2 : Int32).toNatClampNeg (bd ((nI (b - (n + 1))) : Int32).toNatClampNeg)) (whs2 + 1) se bd (nI b) dk dp ct bo wi sh lf lc mo ah) H := hP
        refine jv_iinc (a := 1) hx hb dM_keyOfSeat_73 hl (k := 0) rfl (by decide) (by decide) (fun x5 ex5 ls hl => ?_)
        have hl : lv_has ls 5 [(4, .int x5), (3, .int k2), (2, .int k1), (1, .int q), (0, .ref (g.2.2 0))] := hl
        refine lv_goto (tgt := 38) hx hb dM_keyOfSeat_76 (by decide) ?_
        rw [nI_up (by omega)] at ex5
        have hlB := lv_sub hl [0, 1, 2, 3, 4] rfl
        have hPB := hP
        have hSB := hSS
        subst ex5
        exact ih   _ _ _ _ _ hlB hPB hSB (by omega) (by rw [hz, nI_1]; congr 1; omega) (by have h9 := kq_ag hz (by omega) hg (kq_hb (j := b - (n + 1)) (by omega) hb5); rw [show 2 + (b - (n + 1)) + 1 = 2 + (b - n) by omega] at h9; exact h9) K
  refine hloop b   (upd (upd hd (0 : Int32).toNatClampNeg (se ((2 * q) : Int32).toNatClampNeg)) (1 : Int32).toNatClampNeg (se (((2 * q) + 1) : Int32).toNatClampNeg)) 2 _ _ ls (by have h9 := lv_sub hl [0, 4, 3, 2, 1] rfl; subst ex1; rw [Nat.sub_self]; exact h9) hP hSS (Nat.le_refl _) (by rw [Nat.sub_self]; rfl) (by rw [Nat.sub_self]; exact kq_0 rfl rfl) (fun hd6 hs7 H locs ls hl hP hSS kz kg => ?_)
  clear hloop
  rw [kz] at hP
  refine lv_iload_n hx hb dM_keyOfSeat_79 rfl (lv_at hl 1 rfl) ?_
  refine lv_if_lt (tgt := 103) hx hb dM_keyOfSeat_80 (by decide) (fun hc8 => ?_) (fun hc8 => ?_)
  · refine lv_iload_n hx hb dM_keyOfSeat_103 rfl (lv_at hl 0 rfl) ?_
    refine lv_if_lt (tgt := 127) hx hb dM_keyOfSeat_104 (by decide) (fun hc9 => ?_) (fun hc9 => ?_)
    · refine lv_aload_n hx hb dM_keyOfSeat_127 rfl (lv_at hl 3 rfl) ?_
      have hN2 : kq_n b k1 k2 = 2 + b := by unfold kq_n; simp only [if_pos hc8, if_pos hc9, Nat.add_zero]
      rw [hN2] at hN
      have hh : ∀ i, i < 2 + b → vp_in (hd6 i) 52 := fun i hi => by rw [show hd6 i = _ from kg i hi]; exact kq_ok hv1 hv2 hbd hk1 hk2 i (by rw [hN2]; exact hi)
      refine mm_V (cM_bestKey l g th ks kc rn oc hd6 (2 + b) se bd (nI b) dk dp ct bo wi sh lf lc mo ah hap hN hh) rfl kM_M_bestKey hS hK hP ⟨Nat.le_of_ble_eq_true rfl, Nat.le_of_ble_eq_true rfl⟩ hl.1 rfl (Nat.le_of_ble_eq_true rfl) ⟨Nat.zero_le _, Nat.zero_le _⟩ dM_keyOfSeat_128 hSS (fun v9 S9 H locs hR hP hSS => ?_)
      obtain ⟨rfl, rn10, oc11, rfl⟩ := hR
      have hP : va_P g.1 cl_X (mo_V g th ks kc rn10 oc11 hd6 (nI (2 + b)) se bd (nI b) dk dp ct bo wi sh lf lc mo ah) H := hP
      exact mm_iret (S := (th, ks, kc, rn10, oc11, hd6, (nI (2 + b)), se, bd, (nI b), dk, dp, ct, bo, wi, sh, lf, lc, mo, ah)) hx hb hr hlk dM_keyOfSeat_131 hP hSS (by exact ⟨by unfold k_sk; rw [hN2, k_best_hg kg hN], rn10, oc11, hd6, (nI (2 + b)), rfl⟩)
    · refine lv_aload_n hx hb dM_keyOfSeat_107 rfl (lv_at hl 3 rfl) ?_
      refine va_get (D := g.1) (ci := 1) (v := .ref (g.2.2 4)) (C := "HandTablesModel") (T := T_M) (N := 20) hx hb hts (fun w hw => wd_in (u_inM w hw)) hown hK hP 0 rfl rfl 5 (by decide) (hts _ (wd_in (gw_mem 462 rfl rfl))) (fun _ h => h) rfl dM_keyOfSeat_108 ?_
      refine lv_aload_n hx hb dM_keyOfSeat_111 rfl (lv_at hl 3 rfl) ?_
      refine va_get (D := g.1) (ci := 1) (v := .int (nI (2 + b))) (C := "HandTablesModel") (T := T_M) (N := 20) hx hb hts (fun w hw => wd_in (u_inM w hw)) hown hK hP 0 rfl rfl 6 (by decide) (hts _ (wd_in (gw_mem 463 rfl rfl))) (fun _ h => h) rfl dM_keyOfSeat_112 ?_
      refine lv_iload_n hx hb dM_keyOfSeat_115 rfl (lv_at hl 0 rfl) ?_
      refine va_iast (x := k2) hx hb hK hP (mo_D hap) hSS 4 0 rfl rfl (vp_in_nI (by unfold kq_n at hN; rw [if_pos hc8, if_neg hc9] at hN; omega) (by decide)) dM_keyOfSeat_116 (fun H locs hP _ hSS => ?_)
      have hP : va_P g.1 cl_X (mo_V g th ks kc rn oc (upd hd6 ((nI (2 + b)) : Int32).toNatClampNeg k2) (nI (2 + b)) se bd (nI b) dk dp ct bo wi sh lf lc mo ah) H := hP
      refine lv_aload_n hx hb dM_keyOfSeat_117 rfl (lv_at hl 3 rfl) ?_
      refine lv_dup hx hb dM_keyOfSeat_118 rfl ?_
      refine va_get (D := g.1) (ci := 1) (v := .int (nI (2 + b))) (C := "HandTablesModel") (T := T_M) (N := 20) hx hb hts (fun w hw => wd_in (u_inM w hw)) hown hK hP 0 rfl rfl 6 (by decide) (hts _ (wd_in (gw_mem 463 rfl rfl))) (fun _ h => h) rfl dM_keyOfSeat_119 ?_
      refine lv_iconst (v := 1) hx hb dM_keyOfSeat_122 (by decide) ?_
      refine lv_iadd hx hb dM_keyOfSeat_123 ?_
      refine va_put (D := g.1) (ci := 1) (v := .int ((nI (2 + b)) + 1)) (ty := .int) (C := "HandTablesModel") (T := T_M) (N := 20) hx hb hts (fun w hw => wd_in (u_inM w hw)) tf_M tf_M_ok n_M hown hK hP (mo_D hap) hSS 0 rfl rfl 6 (by decide) (hts _ (wd_in (gw_mem 463 rfl rfl))) (fun _ h => h) rfl (by decide +kernel) rfl rfl (Nat.le_of_ble_eq_true rfl) dM_keyOfSeat_124 (fun H locs hP _ hSS => ?_)
      have hP : va_P g.1 cl_X (mo_V g th ks kc rn oc (upd hd6 ((nI (2 + b)) : Int32).toNatClampNeg k2) ((nI (2 + b)) + 1) se bd (nI b) dk dp ct bo wi sh lf lc mo ah) H := hP
      refine lv_aload_n hx hb dM_keyOfSeat_127 rfl (lv_at hl 3 rfl) ?_
      have kg := kq_ag (z := nI (2 + b)) rfl (by omega) kg (kq_h2 hc8)
      rw [nI_1] at hP
      have hN2 : kq_n b k1 k2 = 2 + b + 1 := by unfold kq_n; simp only [if_pos hc8, if_neg hc9, Nat.add_zero]
      rw [hN2] at hN
      have hh : ∀ i, i < 2 + b + 1 → vp_in ((upd hd6 ((nI (2 + b)) : Int32).toNatClampNeg k2) i) 52 := fun i hi => by rw [show (upd hd6 ((nI (2 + b)) : Int32).toNatClampNeg k2) i = _ from kg i hi]; exact kq_ok hv1 hv2 hbd hk1 hk2 i (by rw [hN2]; exact hi)
      refine mm_V (cM_bestKey l g th ks kc rn oc (upd hd6 ((nI (2 + b)) : Int32).toNatClampNeg k2) (2 + b + 1) se bd (nI b) dk dp ct bo wi sh lf lc mo ah hap hN hh) rfl kM_M_bestKey hS hK hP ⟨Nat.le_of_ble_eq_true rfl, Nat.le_of_ble_eq_true rfl⟩ hl.1 rfl (Nat.le_of_ble_eq_true rfl) ⟨Nat.zero_le _, Nat.zero_le _⟩ dM_keyOfSeat_128 hSS (fun v9 S9 H locs hR hP hSS => ?_)
      obtain ⟨rfl, rn12, oc13, rfl⟩ := hR
      have hP : va_P g.1 cl_X (mo_V g th ks kc rn12 oc13 (upd hd6 ((nI (2 + b)) : Int32).toNatClampNeg k2) (nI (2 + b + 1)) se bd (nI b) dk dp ct bo wi sh lf lc mo ah) H := hP
      exact mm_iret (S := (th, ks, kc, rn12, oc13, (upd hd6 ((nI (2 + b)) : Int32).toNatClampNeg k2), (nI (2 + b + 1)), se, bd, (nI b), dk, dp, ct, bo, wi, sh, lf, lc, mo, ah)) hx hb hr hlk dM_keyOfSeat_131 hP hSS (by exact ⟨by unfold k_sk; rw [hN2, k_best_hg kg hN], rn12, oc13, (upd hd6 ((nI (2 + b)) : Int32).toNatClampNeg k2), (nI (2 + b + 1)), rfl⟩)
  · refine lv_aload_n hx hb dM_keyOfSeat_83 rfl (lv_at hl 3 rfl) ?_
    refine va_get (D := g.1) (ci := 1) (v := .ref (g.2.2 4)) (C := "HandTablesModel") (T := T_M) (N := 20) hx hb hts (fun w hw => wd_in (u_inM w hw)) hown hK hP 0 rfl rfl 5 (by decide) (hts _ (wd_in (gw_mem 462 rfl rfl))) (fun _ h => h) rfl dM_keyOfSeat_84 ?_
    refine lv_aload_n hx hb dM_keyOfSeat_87 rfl (lv_at hl 3 rfl) ?_
    refine va_get (D := g.1) (ci := 1) (v := .int (nI (2 + b))) (C := "HandTablesModel") (T := T_M) (N := 20) hx hb hts (fun w hw => wd_in (u_inM w hw)) hown hK hP 0 rfl rfl 6 (by decide) (hts _ (wd_in (gw_mem 463 rfl rfl))) (fun _ h => h) rfl dM_keyOfSeat_88 ?_
    refine lv_iload_n hx hb dM_keyOfSeat_91 rfl (lv_at hl 1 rfl) ?_
    refine va_iast (x := k1) hx hb hK hP (mo_D hap) hSS 4 0 rfl rfl (vp_in_nI (by unfold kq_n at hN; rw [if_neg hc8] at hN; omega) (by decide)) dM_keyOfSeat_92 (fun H locs hP _ hSS => ?_)
    have hP : va_P g.1 cl_X (mo_V g th ks kc rn oc (upd hd6 ((nI (2 + b)) : Int32).toNatClampNeg k1) (nI (2 + b)) se bd (nI b) dk dp ct bo wi sh lf lc mo ah) H := hP
    refine lv_aload_n hx hb dM_keyOfSeat_93 rfl (lv_at hl 3 rfl) ?_
    refine lv_dup hx hb dM_keyOfSeat_94 rfl ?_
    refine va_get (D := g.1) (ci := 1) (v := .int (nI (2 + b))) (C := "HandTablesModel") (T := T_M) (N := 20) hx hb hts (fun w hw => wd_in (u_inM w hw)) hown hK hP 0 rfl rfl 6 (by decide) (hts _ (wd_in (gw_mem 463 rfl rfl))) (fun _ h => h) rfl dM_keyOfSeat_95 ?_
    refine lv_iconst (v := 1) hx hb dM_keyOfSeat_98 (by decide) ?_
    refine lv_iadd hx hb dM_keyOfSeat_99 ?_
    refine va_put (D := g.1) (ci := 1) (v := .int ((nI (2 + b)) + 1)) (ty := .int) (C := "HandTablesModel") (T := T_M) (N := 20) hx hb hts (fun w hw => wd_in (u_inM w hw)) tf_M tf_M_ok n_M hown hK hP (mo_D hap) hSS 0 rfl rfl 6 (by decide) (hts _ (wd_in (gw_mem 463 rfl rfl))) (fun _ h => h) rfl (by decide +kernel) rfl rfl (Nat.le_of_ble_eq_true rfl) dM_keyOfSeat_100 (fun H locs hP _ hSS => ?_)
    have hP : va_P g.1 cl_X (mo_V g th ks kc rn oc (upd hd6 ((nI (2 + b)) : Int32).toNatClampNeg k1) ((nI (2 + b)) + 1) se bd (nI b) dk dp ct bo wi sh lf lc mo ah) H := hP
    refine lv_iload_n hx hb dM_keyOfSeat_103 rfl (lv_at hl 0 rfl) ?_
    refine lv_if_lt (tgt := 127) hx hb dM_keyOfSeat_104 (by decide) (fun hc14 => ?_) (fun hc14 => ?_)
    · refine lv_aload_n hx hb dM_keyOfSeat_127 rfl (lv_at hl 3 rfl) ?_
      have kg := kq_ag (z := nI (2 + b)) rfl (by omega) kg (kq_h1 hc8)
      rw [nI_1] at hP
      have hN2 : kq_n b k1 k2 = 2 + b + 1 := by unfold kq_n; simp only [if_neg hc8, if_pos hc14, Nat.add_zero]
      rw [hN2] at hN
      have hh : ∀ i, i < 2 + b + 1 → vp_in ((upd hd6 ((nI (2 + b)) : Int32).toNatClampNeg k1) i) 52 := fun i hi => by rw [show (upd hd6 ((nI (2 + b)) : Int32).toNatClampNeg k1) i = _ from kg i hi]; exact kq_ok hv1 hv2 hbd hk1 hk2 i (by rw [hN2]; exact hi)
      refine mm_V (cM_bestKey l g th ks kc rn oc (upd hd6 ((nI (2 + b)) : Int32).toNatClampNeg k1) (2 + b + 1) se bd (nI b) dk dp ct bo wi sh lf lc mo ah hap hN hh) rfl kM_M_bestKey hS hK hP ⟨Nat.le_of_ble_eq_true rfl, Nat.le_of_ble_eq_true rfl⟩ hl.1 rfl (Nat.le_of_ble_eq_true rfl) ⟨Nat.zero_le _, Nat.zero_le _⟩ dM_keyOfSeat_128 hSS (fun v9 S9 H locs hR hP hSS => ?_)
      obtain ⟨rfl, rn15, oc16, rfl⟩ := hR
      have hP : va_P g.1 cl_X (mo_V g th ks kc rn15 oc16 (upd hd6 ((nI (2 + b)) : Int32).toNatClampNeg k1) (nI (2 + b + 1)) se bd (nI b) dk dp ct bo wi sh lf lc mo ah) H := hP
      exact mm_iret (S := (th, ks, kc, rn15, oc16, (upd hd6 ((nI (2 + b)) : Int32).toNatClampNeg k1), (nI (2 + b + 1)), se, bd, (nI b), dk, dp, ct, bo, wi, sh, lf, lc, mo, ah)) hx hb hr hlk dM_keyOfSeat_131 hP hSS (by exact ⟨by unfold k_sk; rw [hN2, k_best_hg kg hN], rn15, oc16, (upd hd6 ((nI (2 + b)) : Int32).toNatClampNeg k1), (nI (2 + b + 1)), rfl⟩)
    · refine lv_aload_n hx hb dM_keyOfSeat_107 rfl (lv_at hl 3 rfl) ?_
      refine va_get (D := g.1) (ci := 1) (v := .ref (g.2.2 4)) (C := "HandTablesModel") (T := T_M) (N := 20) hx hb hts (fun w hw => wd_in (u_inM w hw)) hown hK hP 0 rfl rfl 5 (by decide) (hts _ (wd_in (gw_mem 462 rfl rfl))) (fun _ h => h) rfl dM_keyOfSeat_108 ?_
      refine lv_aload_n hx hb dM_keyOfSeat_111 rfl (lv_at hl 3 rfl) ?_
      refine va_get (D := g.1) (ci := 1) (v := .int ((nI (2 + b)) + 1)) (C := "HandTablesModel") (T := T_M) (N := 20) hx hb hts (fun w hw => wd_in (u_inM w hw)) hown hK hP 0 rfl rfl 6 (by decide) (hts _ (wd_in (gw_mem 463 rfl rfl))) (fun _ h => h) rfl dM_keyOfSeat_112 ?_
      refine lv_iload_n hx hb dM_keyOfSeat_115 rfl (lv_at hl 0 rfl) ?_
      refine va_iast (x := k2) hx hb hK hP (mo_D hap) hSS 4 0 rfl rfl (by rw [nI_1]; exact vp_in_nI (by unfold kq_n at hN; rw [if_neg hc8, if_neg hc14] at hN; omega) (by decide)) dM_keyOfSeat_116 (fun H locs hP _ hSS => ?_)
      have hP : va_P g.1 cl_X (mo_V g th ks kc rn oc (upd (upd hd6 ((nI (2 + b)) : Int32).toNatClampNeg k1) (((nI (2 + b)) + 1) : Int32).toNatClampNeg k2) ((nI (2 + b)) + 1) se bd (nI b) dk dp ct bo wi sh lf lc mo ah) H := hP
      refine lv_aload_n hx hb dM_keyOfSeat_117 rfl (lv_at hl 3 rfl) ?_
      refine lv_dup hx hb dM_keyOfSeat_118 rfl ?_
      refine va_get (D := g.1) (ci := 1) (v := .int ((nI (2 + b)) + 1)) (C := "HandTablesModel") (T := T_M) (N := 20) hx hb hts (fun w hw => wd_in (u_inM w hw)) hown hK hP 0 rfl rfl 6 (by decide) (hts _ (wd_in (gw_mem 463 rfl rfl))) (fun _ h => h) rfl dM_keyOfSeat_119 ?_
      refine lv_iconst (v := 1) hx hb dM_keyOfSeat_122 (by decide) ?_
      refine lv_iadd hx hb dM_keyOfSeat_123 ?_
      refine va_put (D := g.1) (ci := 1) (v := .int (((nI (2 + b)) + 1) + 1)) (ty := .int) (C := "HandTablesModel") (T := T_M) (N := 20) hx hb hts (fun w hw => wd_in (u_inM w hw)) tf_M tf_M_ok n_M hown hK hP (mo_D hap) hSS 0 rfl rfl 6 (by decide) (hts _ (wd_in (gw_mem 463 rfl rfl))) (fun _ h => h) rfl (by decide +kernel) rfl rfl (Nat.le_of_ble_eq_true rfl) dM_keyOfSeat_124 (fun H locs hP _ hSS => ?_)
      have hP : va_P g.1 cl_X (mo_V g th ks kc rn oc (upd (upd hd6 ((nI (2 + b)) : Int32).toNatClampNeg k1) (((nI (2 + b)) + 1) : Int32).toNatClampNeg k2) (((nI (2 + b)) + 1) + 1) se bd (nI b) dk dp ct bo wi sh lf lc mo ah) H := hP
      refine lv_aload_n hx hb dM_keyOfSeat_127 rfl (lv_at hl 3 rfl) ?_
      have kg := kq_ag (z := nI (2 + b)) rfl (by omega) kg (kq_h1 hc8)
      rw [nI_1] at hP
      have kg := kq_ag (z := nI (2 + b + 1)) rfl (by omega) kg kq_h3
      rw [nI_1] at hP
      have hN2 : kq_n b k1 k2 = 2 + b + 1 + 1 := by unfold kq_n; simp only [if_neg hc8, if_neg hc14, Nat.add_zero]
      rw [hN2] at hN
      have hh : ∀ i, i < 2 + b + 1 + 1 → vp_in ((upd (upd hd6 ((nI (2 + b)) : Int32).toNatClampNeg k1) ((nI (2 + b + 1)) : Int32).toNatClampNeg k2) i) 52 := fun i hi => by rw [show (upd (upd hd6 ((nI (2 + b)) : Int32).toNatClampNeg k1) ((nI (2 + b + 1)) : Int32).toNatClampNeg k2) i = _ from kg i hi]; exact kq_ok hv1 hv2 hbd hk1 hk2 i (by rw [hN2]; exact hi)
      refine mm_V (cM_bestKey l g th ks kc rn oc (upd (upd hd6 ((nI (2 + b)) : Int32).toNatClampNeg k1) ((nI (2 + b + 1)) : Int32).toNatClampNeg k2) (2 + b + 1 + 1) se bd (nI b) dk dp ct bo wi sh lf lc mo ah hap hN hh) rfl kM_M_bestKey hS hK hP ⟨Nat.le_of_ble_eq_true rfl, Nat.le_of_ble_eq_true rfl⟩ hl.1 rfl (Nat.le_of_ble_eq_true rfl) ⟨Nat.zero_le _, Nat.zero_le _⟩ dM_keyOfSeat_128 hSS (fun v9 S9 H locs hR hP hSS => ?_)
      obtain ⟨rfl, rn17, oc18, rfl⟩ := hR
      have hP : va_P g.1 cl_X (mo_V g th ks kc rn17 oc18 (upd (upd hd6 ((nI (2 + b)) : Int32).toNatClampNeg k1) ((nI (2 + b + 1)) : Int32).toNatClampNeg k2) (nI (2 + b + 1 + 1)) se bd (nI b) dk dp ct bo wi sh lf lc mo ah) H := hP
      exact mm_iret (S := (th, ks, kc, rn17, oc18, (upd (upd hd6 ((nI (2 + b)) : Int32).toNatClampNeg k1) ((nI (2 + b + 1)) : Int32).toNatClampNeg k2), (nI (2 + b + 1 + 1)), se, bd, (nI b), dk, dp, ct, bo, wi, sh, lf, lc, mo, ah)) hx hb hr hlk dM_keyOfSeat_131 hP hSS (by exact ⟨by unfold k_sk; rw [hN2, k_best_hg kg hN], rn17, oc18, (upd (upd hd6 ((nI (2 + b)) : Int32).toNatClampNeg k1) ((nI (2 + b + 1)) : Int32).toNatClampNeg k2), (nI (2 + b + 1 + 1)), rfl⟩)
set_option maxHeartbeats 4000000 in
set_option maxRecDepth 100000 in
theorem cM_leaders (l : Launch) (g : mo_E) (th : Int32) (ks : Nat → Int32) (kc : Int32) (rn : Nat → Int32) (oc : Nat → Int32) (hd : Nat → Int32) (hs : Int32) (se : Nat → Int32) (bd : Nat → Int32) (b : Nat) (dk : Nat → Int32) (dp : Int32) (ct : Int32) (bo : Int32) (wi : Nat → Int32) (sh : Nat → Int32) (lf : Nat → Int32) (lc : Int32) (mo : Int32) (ah : Int32) (k1 : Int32) (k2 : Int32)  (hap : mo_ap g) (hb5 : b ≤ 5) (hbd : ∀ i, i < b → vp_in (bd i) 52) (hse : k_hse se) (hk1 : k1 < 0 ∨ vp_in k1 52) (hk2 : k2 < 0 ∨ vp_in k2 52) (hN : kq_n b k1 k2 ≤ 7) : mm_M l yM_leaders bM_leaders 5 (some .int) 5 [.ref (g.2.2 0), .int k1, .int k2] g (th, ks, kc, rn, oc, hd, hs, se, bd, (nI b), dk, dp, ct, bo, wi, sh, lf, lc, mo, ah) (fun v9 S9 => v9 = some (.int (k_lead se bd b k1 k2)) ∧ ∃ (rn' : Nat → Int32) (oc' : Nat → Int32) (hd' : Nat → Int32) (hs' : Int32) (mo' : Int32) (ah' : Int32), S9 = (th, ks, kc, rn', oc', hd', hs', se, bd, (nI b), dk, dp, ct, bo, wi, sh, lf, lc, mo', ah')) := by
  refine Met.ofW (cc := bM_leaders) (maxL := 5) (ret := (some .int)) (by decide) rfl ?_
  intro p e s m args below meth c s₁ BB hml hv
  obtain ⟨rfl, hB⟩ := hv
  have hx := BB.exec
  have hb := BB.bytes
  have hr := BB.returns
  have hlk := BB.notSynchronized
  have hts := atoms_spec (ws := wd yM_leaders bM_leaders 5 (some .int)) BB.pre
  have hown : s.vm.findClass "HandTablesModel" = some m.cls := findClass_of_methodNamed BB.named
  have hS : CallFix p m c bM_leaders 5 s _ (wd yM_leaders bM_leaders 5 (some .int)) "HandTablesModel" := ⟨hx, hb, hml, hown, hts⟩
  obtain ⟨hP, hK⟩ := hB
  have hP : va_P g.1 cl_X (mo_V g th ks kc rn oc hd hs se bd (nI b) dk dp ct bo wi sh lf lc mo ah) s.heap := hP
  have hSS : va_S (mo_fr g) s.heap s.heap [] := va_S.rf
  have hl := lv_entry ([.ref (g.2.2 0), .int k1, .int k2]) (n := 5) (Nat.le_of_ble_eq_true rfl)
  rw [lg_entry_eq]
  generalize (lg_sl ([.ref (g.2.2 0), .int k1, .int k2]) ++ List.replicate (5 - (lg_sl ([.ref (g.2.2 0), .int k1, .int k2])).length) Slot.unset).toArray = ls at hl ⊢
  have hl : lv_has ls 5 [(0, .ref (g.2.2 0)), (1, .int k1), (2, .int k2)] := hl
  obtain ⟨H, eH⟩ : ∃ H, s.heap = H := ⟨_, rfl⟩
  obtain ⟨locs, eL⟩ : ∃ L, ([] : List Loc) = L := ⟨_, rfl⟩
  have hP : va_P g.1 cl_X (mo_V g th ks kc rn oc hd hs se bd (nI b) dk dp ct bo wi sh lf lc mo ah) H := by rw [← eH]; exact hP
  have hSS : va_S (mo_fr g) s.heap H locs := by rw [← eH, ← eL]; exact hSS
  refine mm_go eH eL ?_
  clear eH eL
  refine lv_aload_n hx hb dM_leaders_0 rfl (lv_at hl 0 rfl) ?_
  refine lv_iconst (v := (-1)) hx hb dM_leaders_1 (by decide) ?_
  refine va_put (D := g.1) (ci := 1) (v := .int (-1)) (ty := .int) (C := "HandTablesModel") (T := T_M) (N := 20) hx hb hts (fun w hw => wd_in (u_inM w hw)) tf_M tf_M_ok n_M hown hK hP (mo_D hap) hSS 0 rfl rfl 18 (by decide) (hts _ (wd_in (gw_mem 475 rfl rfl))) (fun _ h => h) rfl (by decide +kernel) rfl rfl (Nat.le_of_ble_eq_true rfl) dM_leaders_2 (fun H locs hP _ hSS => ?_)
  have hP : va_P g.1 cl_X (mo_V g th ks kc rn oc hd hs se bd (nI b) dk dp ct bo wi sh lf lc (-1) ah) H := hP
  refine lv_aload_n hx hb dM_leaders_5 rfl (lv_at hl 0 rfl) ?_
  refine lv_iconst (v := 0) hx hb dM_leaders_6 (by decide) ?_
  refine va_put (D := g.1) (ci := 1) (v := .int 0) (ty := .int) (C := "HandTablesModel") (T := T_M) (N := 20) hx hb hts (fun w hw => wd_in (u_inM w hw)) tf_M tf_M_ok n_M hown hK hP (mo_D hap) hSS 0 rfl rfl 19 (by decide) (hts _ (wd_in (gw_mem 476 rfl rfl))) (fun _ h => h) rfl (by decide +kernel) rfl rfl (Nat.le_of_ble_eq_true rfl) dM_leaders_7 (fun H locs hP _ hSS => ?_)
  have hP : va_P g.1 cl_X (mo_V g th ks kc rn oc hd hs se bd (nI b) dk dp ct bo wi sh lf lc (-1) 0) H := hP
  refine lv_iconst (v := 0) hx hb dM_leaders_10 (by decide) ?_
  refine jt_topi (fun x1 ex1 => ?_)
  refine lv_istore_n (lv' := [(3, .int x1), (0, .ref (g.2.2 0)), (1, .int k1), (2, .int k2)]) hx hb dM_leaders_11 rfl hl (by decide) rfl (fun ls hl => ?_)
  have hloop : ∀ (n : Nat)   (wrn2 : Nat → Int32) (woc2 : Nat → Int32) (whd2 : Nat → Int32) (whs2 : Int32) (wmo2 : Int32) (wah2 : Int32) (H : Heap) (locs : List Loc) (ls : Array Slot), lv_has ls 5 [(3, .int (nI (6 - n))), (2, .int k2), (1, .int k1), (0, .ref (g.2.2 0))] → va_P g.1 cl_X (mo_V g th ks kc wrn2 woc2 whd2 whs2 se bd (nI b) dk dp ct bo wi sh lf lc wmo2 wah2) H → va_S (mo_fr g) s.heap H locs → (n ≤ 6) → (∀ (rn' : Nat → Int32) (oc' : Nat → Int32) (hd' : Nat → Int32) (hs' : Int32) (H : Heap) (locs : List Loc) (ls : Array Slot), lv_has ls 5 [(0, .ref (g.2.2 0))] → va_P g.1 cl_X (mo_V g th ks kc rn' oc' hd' hs' se bd (nI b) dk dp ct bo wi sh lf lc ((kl_lp se bd b k1 k2 n wmo2 wah2).1) ((kl_lp se bd b k1 k2 n wmo2 wah2).2)) H → va_S (mo_fr g) s.heap H locs → W p l e (headSpec (wd yM_leaders bM_leaders 5 (some .int)) (rmD 5 0 0)).room s m ([.ref (g.2.2 0), .int k1, .int k2]).toArray below meth c H locs 0 0 (MQ below (mm_Q g (fun v9 S9 => v9 = some (.int (k_lead se bd b k1 k2)) ∧ ∃ (rn' : Nat → Int32) (oc' : Nat → Int32) (hd' : Nat → Int32) (hs' : Int32) (mo' : Int32) (ah' : Int32), S9 = (th, ks, kc, rn', oc', hd', hs', se, bd, (nI b), dk, dp, ct, bo, wi, sh, lf, lc, mo', ah'))) ([.ref (g.2.2 0), .int k1, .int k2]).toArray s 0 0 (mo_fr g)) (F0 m 93 ls [])) → W p l e (headSpec (wd yM_leaders bM_leaders 5 (some .int)) (rmD 5 0 0)).room s m ([.ref (g.2.2 0), .int k1, .int k2]).toArray below meth c H locs 0 0 (MQ below (mm_Q g (fun v9 S9 => v9 = some (.int (k_lead se bd b k1 k2)) ∧ ∃ (rn' : Nat → Int32) (oc' : Nat → Int32) (hd' : Nat → Int32) (hs' : Int32) (mo' : Int32) (ah' : Int32), S9 = (th, ks, kc, rn', oc', hd', hs', se, bd, (nI b), dk, dp, ct, bo, wi, sh, lf, lc, mo', ah'))) ([.ref (g.2.2 0), .int k1, .int k2]).toArray s 0 0 (mo_fr g)) (F0 m 12 ls []) := by
    intro n
    induction n with
    | zero =>
      intro   wrn2 woc2 whd2 whs2 wmo2 wah2 H locs ls hl hP hSS hn K
      refine lv_iload_n hx hb dM_leaders_12 rfl (lv_at hl 0 rfl) ?_
      refine lv_bipush (v := 6) hx hb dM_leaders_13 (by decide) ?_
      refine lv_icmp_ge (tgt := 93) hx hb dM_leaders_15 (by decide) (fun hc3 => ?_) (fun hc3 => ?_)
      · have hlB := lv_sub hl [3] rfl
        have hPB := hP
        have hSB := hSS
        simp only [kl_lp] at K
        exact K _ _ _ _ _ _ _ hlB hPB hSB 
      · exact absurd (by decide) hc3
    | succ n ih =>
      intro   wrn2 woc2 whd2 whs2 wmo2 wah2 H locs ls hl hP hSS hn K
      refine lv_iload_n hx hb dM_leaders_12 rfl (lv_at hl 0 rfl) ?_
      refine lv_bipush (v := 6) hx hb dM_leaders_13 (by decide) ?_
      refine lv_icmp_ge (tgt := 93) hx hb dM_leaders_15 (by decide) (fun hc4 => ?_) (fun hc4 => ?_)
      · exact absurd hc4 (nI_ge (b := 6) (by omega) (by decide))
      · refine lv_aload_n hx hb dM_leaders_18 rfl (lv_at hl 3 rfl) ?_
        refine va_get (D := g.1) (ci := 1) (v := .ref (g.2.2 5)) (C := "HandTablesModel") (T := T_M) (N := 20) hx hb hts (fun w hw => wd_in (u_inM w hw)) hown hK hP 0 rfl rfl 7 (by decide) (hts _ (wd_in (gw_mem 464 rfl rfl))) (fun _ h => h) rfl dM_leaders_19 ?_
        refine lv_iconst (v := 2) hx hb dM_leaders_22 (by decide) ?_
        refine lv_iload_n hx hb dM_leaders_23 rfl (lv_at hl 0 rfl) ?_
        refine lv_imul hx hb dM_leaders_24 ?_
        refine va_iald hx hb hK hP 5 0 rfl rfl (k_2n (by omega)) dM_leaders_25 ?_
        refine lv_iconst (v := (-1)) hx hb dM_leaders_26 (by decide) ?_
        refine lv_icmp_eq (tgt := 87) hx hb dM_leaders_27 (by decide) (fun hc5 => ?_) (fun hc5 => ?_)
        · refine jv_iinc (a := 1) hx hb dM_leaders_87 hl (k := 0) rfl (by decide) (by decide) (fun x6 ex6 ls hl => ?_)
          have hl : lv_has ls 5 [(3, .int x6), (2, .int k2), (1, .int k1), (0, .ref (g.2.2 0))] := hl
          refine lv_goto (tgt := 12) hx hb dM_leaders_90 (by decide) ?_
          rw [nI_up (by omega)] at ex6
          have hlB := lv_sub hl [0, 1, 2, 3] rfl
          have hPB := hP
          have hSB := hSS
          subst ex6
          simp only [kl_lp, if_pos hc5] at K
          exact ih   _ _ _ _ _ _ _ _ _ hlB hPB hSB (by omega) K
        · refine lv_aload_n hx hb dM_leaders_30 rfl (lv_at hl 3 rfl) ?_
          refine lv_iload_n hx hb dM_leaders_31 rfl (lv_at hl 0 rfl) ?_
          refine lv_iload_n hx hb dM_leaders_32 rfl (lv_at hl 2 rfl) ?_
          refine lv_iload_n hx hb dM_leaders_33 rfl (lv_at hl 1 rfl) ?_
          refine mm_V (cM_keyOfSeat l g th ks kc wrn2 woc2 whd2 whs2 se bd b dk dp ct bo wi sh lf lc wmo2 wah2 (nI (6 - (n + 1))) k1 k2 hap hb5 hbd (k_2n (by omega)) (k_2n1 (by omega)) ((hse _ (by omega)).resolve_left hc5).1 ((hse _ (by omega)).resolve_left hc5).2 hk1 hk2 hN) rfl kM_M_keyOfSeat hS hK hP ⟨Nat.le_of_ble_eq_true rfl, Nat.le_of_ble_eq_true rfl⟩ hl.1 rfl (Nat.le_of_ble_eq_true rfl) ⟨Nat.zero_le _, Nat.zero_le _⟩ dM_leaders_34 hSS (fun v9 S9 H locs hR hP hSS => ?_)
          obtain ⟨rfl, rn7, oc8, hd9, hs10, rfl⟩ := hR
          have hP : va_P g.1 cl_X (mo_V g th ks kc rn7 oc8 hd9 hs10 se bd (nI b) dk dp ct bo wi sh lf lc wmo2 wah2) H := hP
          refine jt_topi (fun x11 ex11 => ?_)
          refine lv_istore (lv' := [(4, .int x11), (3, .int (nI (6 - (n + 1)))), (2, .int k2), (1, .int k1), (0, .ref (g.2.2 0))]) hx hb dM_leaders_37 hl (by decide) rfl (fun ls hl => ?_)
          refine lv_iload hx hb dM_leaders_39 (lv_at hl 0 rfl) ?_
          refine lv_aload_n hx hb dM_leaders_41 rfl (lv_at hl 4 rfl) ?_
          refine va_get (D := g.1) (ci := 1) (v := .int wmo2) (C := "HandTablesModel") (T := T_M) (N := 20) hx hb hts (fun w hw => wd_in (u_inM w hw)) hown hK hP 0 rfl rfl 18 (by decide) (hts _ (wd_in (gw_mem 475 rfl rfl))) (fun _ h => h) rfl dM_leaders_42 ?_
          refine lv_icmp_le (tgt := 59) hx hb dM_leaders_45 (by decide) (fun hc12 => ?_) (fun hc12 => ?_)
          · refine lv_aload_n hx hb dM_leaders_59 rfl (lv_at hl 4 rfl) ?_
            refine lv_iload hx hb dM_leaders_60 (lv_at hl 0 rfl) ?_
            refine lv_aload_n hx hb dM_leaders_62 rfl (lv_at hl 4 rfl) ?_
            refine va_get (D := g.1) (ci := 1) (v := .int wmo2) (C := "HandTablesModel") (T := T_M) (N := 20) hx hb hts (fun w hw => wd_in (u_inM w hw)) hown hK hP 0 rfl rfl 18 (by decide) (hts _ (wd_in (gw_mem 475 rfl rfl))) (fun _ h => h) rfl dM_leaders_63 ?_
            refine lv_icmp_ne (tgt := 80) hx hb dM_leaders_66 (by decide) (fun hc13 => ?_) (fun hc13 => ?_)
            · refine lv_aload_n hx hb dM_leaders_80 rfl (lv_at hl 4 rfl) ?_
              refine va_get (D := g.1) (ci := 1) (v := .int wah2) (C := "HandTablesModel") (T := T_M) (N := 20) hx hb hts (fun w hw => wd_in (u_inM w hw)) hown hK hP 0 rfl rfl 19 (by decide) (hts _ (wd_in (gw_mem 476 rfl rfl))) (fun _ h => h) rfl dM_leaders_81 ?_
              refine va_put (D := g.1) (ci := 1) (v := .int wah2) (ty := .int) (C := "HandTablesModel") (T := T_M) (N := 20) hx hb hts (fun w hw => wd_in (u_inM w hw)) tf_M tf_M_ok n_M hown hK hP (mo_D hap) hSS 0 rfl rfl 19 (by decide) (hts _ (wd_in (gw_mem 476 rfl rfl))) (fun _ h => h) rfl (by decide +kernel) rfl rfl (Nat.le_of_ble_eq_true rfl) dM_leaders_84 (fun H locs hP _ hSS => ?_)
              have hP : va_P g.1 cl_X (mo_V g th ks kc rn7 oc8 hd9 hs10 se bd (nI b) dk dp ct bo wi sh lf lc wmo2 wah2) H := hP
              refine jv_iinc (a := 1) hx hb dM_leaders_87 hl (k := 1) rfl (by decide) (by decide) (fun x14 ex14 ls hl => ?_)
              have hl : lv_has ls 5 [(3, .int x14), (4, .int x11), (2, .int k2), (1, .int k1), (0, .ref (g.2.2 0))] := hl
              refine lv_goto (tgt := 12) hx hb dM_leaders_90 (by decide) ?_
              rw [nI_up (by omega)] at ex14
              have hlB := lv_sub hl [0, 2, 3, 4] rfl
              have hPB := hP
              have hSB := hSS
              subst ex14 ex11
              simp only [kl_lp, if_neg hc5, if_pos hc12, if_neg hc13] at K
              exact ih   _ _ _ _ _ _ _ _ _ hlB hPB hSB (by omega) K
            · refine lv_aload_n hx hb dM_leaders_69 rfl (lv_at hl 4 rfl) ?_
              refine va_get (D := g.1) (ci := 1) (v := .int wah2) (C := "HandTablesModel") (T := T_M) (N := 20) hx hb hts (fun w hw => wd_in (u_inM w hw)) hown hK hP 0 rfl rfl 19 (by decide) (hts _ (wd_in (gw_mem 476 rfl rfl))) (fun _ h => h) rfl dM_leaders_70 ?_
              refine lv_iconst (v := 1) hx hb dM_leaders_73 (by decide) ?_
              refine lv_iload_n hx hb dM_leaders_74 rfl (lv_at hl 1 rfl) ?_
              refine jv_ishl hx hb dM_leaders_75 ?_
              refine lv_ior hx hb dM_leaders_76 ?_
              refine lv_goto (tgt := 84) hx hb dM_leaders_77 (by decide) ?_
              refine va_put (D := g.1) (ci := 1) (v := .int (wah2 ||| (jli 1 (nI (6 - (n + 1)))))) (ty := .int) (C := "HandTablesModel") (T := T_M) (N := 20) hx hb hts (fun w hw => wd_in (u_inM w hw)) tf_M tf_M_ok n_M hown hK hP (mo_D hap) hSS 0 rfl rfl 19 (by decide) (hts _ (wd_in (gw_mem 476 rfl rfl))) (fun _ h => h) rfl (by decide +kernel) rfl rfl (Nat.le_of_ble_eq_true rfl) dM_leaders_84 (fun H locs hP _ hSS => ?_)
              have hP : va_P g.1 cl_X (mo_V g th ks kc rn7 oc8 hd9 hs10 se bd (nI b) dk dp ct bo wi sh lf lc wmo2 (wah2 ||| (jli 1 (nI (6 - (n + 1)))))) H := hP
              refine jv_iinc (a := 1) hx hb dM_leaders_87 hl (k := 1) rfl (by decide) (by decide) (fun x15 ex15 ls hl => ?_)
              have hl : lv_has ls 5 [(3, .int x15), (4, .int x11), (2, .int k2), (1, .int k1), (0, .ref (g.2.2 0))] := hl
              refine lv_goto (tgt := 12) hx hb dM_leaders_90 (by decide) ?_
              rw [nI_up (by omega)] at ex15
              have hlB := lv_sub hl [0, 2, 3, 4] rfl
              have hPB := hP
              have hSB := hSS
              subst ex15 ex11
              simp only [kl_lp, if_neg hc5, if_pos hc12, if_pos hc13] at K
              exact ih   _ _ _ _ _ _ _ _ _ hlB hPB hSB (by omega) K
          · refine lv_aload_n hx hb dM_leaders_48 rfl (lv_at hl 4 rfl) ?_
            refine lv_iload hx hb dM_leaders_49 (lv_at hl 0 rfl) ?_
            refine va_put (D := g.1) (ci := 1) (v := .int x11) (ty := .int) (C := "HandTablesModel") (T := T_M) (N := 20) hx hb hts (fun w hw => wd_in (u_inM w hw)) tf_M tf_M_ok n_M hown hK hP (mo_D hap) hSS 0 rfl rfl 18 (by decide) (hts _ (wd_in (gw_mem 475 rfl rfl))) (fun _ h => h) rfl (by decide +kernel) rfl rfl (Nat.le_of_ble_eq_true rfl) dM_leaders_51 (fun H locs hP _ hSS => ?_)
            have hP : va_P g.1 cl_X (mo_V g th ks kc rn7 oc8 hd9 hs10 se bd (nI b) dk dp ct bo wi sh lf lc x11 wah2) H := hP
            refine lv_aload_n hx hb dM_leaders_54 rfl (lv_at hl 4 rfl) ?_
            refine lv_iconst (v := 0) hx hb dM_leaders_55 (by decide) ?_
            refine va_put (D := g.1) (ci := 1) (v := .int 0) (ty := .int) (C := "HandTablesModel") (T := T_M) (N := 20) hx hb hts (fun w hw => wd_in (u_inM w hw)) tf_M tf_M_ok n_M hown hK hP (mo_D hap) hSS 0 rfl rfl 19 (by decide) (hts _ (wd_in (gw_mem 476 rfl rfl))) (fun _ h => h) rfl (by decide +kernel) rfl rfl (Nat.le_of_ble_eq_true rfl) dM_leaders_56 (fun H locs hP _ hSS => ?_)
            have hP : va_P g.1 cl_X (mo_V g th ks kc rn7 oc8 hd9 hs10 se bd (nI b) dk dp ct bo wi sh lf lc x11 0) H := hP
            refine lv_aload_n hx hb dM_leaders_59 rfl (lv_at hl 4 rfl) ?_
            refine lv_iload hx hb dM_leaders_60 (lv_at hl 0 rfl) ?_
            refine lv_aload_n hx hb dM_leaders_62 rfl (lv_at hl 4 rfl) ?_
            refine va_get (D := g.1) (ci := 1) (v := .int x11) (C := "HandTablesModel") (T := T_M) (N := 20) hx hb hts (fun w hw => wd_in (u_inM w hw)) hown hK hP 0 rfl rfl 18 (by decide) (hts _ (wd_in (gw_mem 475 rfl rfl))) (fun _ h => h) rfl dM_leaders_63 ?_
            refine lv_icmp_ne (tgt := 80) hx hb dM_leaders_66 (by decide) (fun hc16 => ?_) (fun hc16 => ?_)
            · exact absurd (by subst_vars; rfl) hc16
            · refine lv_aload_n hx hb dM_leaders_69 rfl (lv_at hl 4 rfl) ?_
              refine va_get (D := g.1) (ci := 1) (v := .int 0) (C := "HandTablesModel") (T := T_M) (N := 20) hx hb hts (fun w hw => wd_in (u_inM w hw)) hown hK hP 0 rfl rfl 19 (by decide) (hts _ (wd_in (gw_mem 476 rfl rfl))) (fun _ h => h) rfl dM_leaders_70 ?_
              refine lv_iconst (v := 1) hx hb dM_leaders_73 (by decide) ?_
              refine lv_iload_n hx hb dM_leaders_74 rfl (lv_at hl 1 rfl) ?_
              refine jv_ishl hx hb dM_leaders_75 ?_
              refine lv_ior hx hb dM_leaders_76 ?_
              refine lv_goto (tgt := 84) hx hb dM_leaders_77 (by decide) ?_
              refine va_put (D := g.1) (ci := 1) (v := .int (0 ||| (jli 1 (nI (6 - (n + 1)))))) (ty := .int) (C := "HandTablesModel") (T := T_M) (N := 20) hx hb hts (fun w hw => wd_in (u_inM w hw)) tf_M tf_M_ok n_M hown hK hP (mo_D hap) hSS 0 rfl rfl 19 (by decide) (hts _ (wd_in (gw_mem 476 rfl rfl))) (fun _ h => h) rfl (by decide +kernel) rfl rfl (Nat.le_of_ble_eq_true rfl) dM_leaders_84 (fun H locs hP _ hSS => ?_)
              have hP : va_P g.1 cl_X (mo_V g th ks kc rn7 oc8 hd9 hs10 se bd (nI b) dk dp ct bo wi sh lf lc x11 (0 ||| (jli 1 (nI (6 - (n + 1)))))) H := hP
              refine jv_iinc (a := 1) hx hb dM_leaders_87 hl (k := 1) rfl (by decide) (by decide) (fun x17 ex17 ls hl => ?_)
              have hl : lv_has ls 5 [(3, .int x17), (4, .int x11), (2, .int k2), (1, .int k1), (0, .ref (g.2.2 0))] := hl
              refine lv_goto (tgt := 12) hx hb dM_leaders_90 (by decide) ?_
              rw [nI_up (by omega)] at ex17
              have hlB := lv_sub hl [0, 2, 3, 4] rfl
              have hPB := hP
              have hSB := hSS
              subst ex17 ex11
              simp only [kl_lp, if_neg hc5, if_neg hc12] at K
              exact ih   _ _ _ _ _ _ _ _ _ hlB hPB hSB (by omega) K
  refine hloop 6   rn oc hd hs (-1) 0 _ _ ls (by have h9 := lv_sub hl [0, 3, 2, 1] rfl; subst ex1; exact h9) hP hSS (by decide) (fun rn18 oc19 hd20 hs21 H locs ls hl hP hSS  => ?_)
  clear hloop
  refine lv_aload_n hx hb dM_leaders_93 rfl (lv_at hl 0 rfl) ?_
  refine va_get (D := g.1) (ci := 1) (v := .int ((kl_lp se bd b k1 k2 6 (-1) 0).2)) (C := "HandTablesModel") (T := T_M) (N := 20) hx hb hts (fun w hw => wd_in (u_inM w hw)) hown hK hP 0 rfl rfl 19 (by decide) (hts _ (wd_in (gw_mem 476 rfl rfl))) (fun _ h => h) rfl dM_leaders_94 ?_
  exact mm_iret (S := (th, ks, kc, rn18, oc19, hd20, hs21, se, bd, (nI b), dk, dp, ct, bo, wi, sh, lf, lc, (kl_lp se bd b k1 k2 6 (-1) 0).1, (kl_lp se bd b k1 k2 6 (-1) 0).2)) hx hb hr hlk dM_leaders_97 hP hSS (by exact ⟨by subst ex1; (try simp only [k_lead]) <;> rfl, rn18, oc19, hd20, hs21, (kl_lp se bd b k1 k2 6 (-1) 0).1, (kl_lp se bd b k1 k2 6 (-1) 0).2, by subst ex1; (try simp only [k_lead]) <;> rfl⟩)
set_option maxHeartbeats 4000000 in
set_option maxRecDepth 100000 in
theorem cM_hand (l : Launch) (g : mo_E) (th : Int32) (ks : Nat → Int32) (kc : Int32) (rn : Nat → Int32) (oc : Nat → Int32) (hd : Nat → Int32) (hs : Int32) (se : Nat → Int32) (bd : Nat → Int32) (b : Nat) (dk : Nat → Int32) (dp : Int32) (ct : Int32) (bo : Int32) (wi : Nat → Int32) (sh : Nat → Int32) (lf : Nat → Int32) (lc : Int32) (mo : Int32) (ah : Int32) (q : Int32)  (hap : mo_ap g) (hb5 : b ≤ 5) (hbd : ∀ i, i < b → vp_in (bd i) 52) (hse : k_hse se) : mm_M l yM_hand bM_hand 2 (some .int) 5 [.ref (g.2.2 0), .int q] g (th, ks, kc, rn, oc, hd, hs, se, bd, (nI b), dk, dp, ct, bo, wi, sh, lf, lc, mo, ah) (fun v9 S9 => v9 = some (.int (if m_noSeat q = 0 then (if se (2 * q).toNatClampNeg = -1 then 0 else if 3 ≤ nI b then k_below ks (k_sk se bd b (-1) (-1) q) else 0) else 0)) ∧ ∃ (rn' : Nat → Int32) (oc' : Nat → Int32) (hd' : Nat → Int32) (hs' : Int32), S9 = ((if m_noSeat q = 0 then (if se (2 * q).toNatClampNeg = -1 then 2 else if 3 ≤ nI b then 0 else 2) else 1), ks, kc, rn', oc', hd', hs', se, bd, (nI b), dk, dp, ct, bo, wi, sh, lf, lc, mo, ah)) := by
  refine Met.ofW (cc := bM_hand) (maxL := 2) (ret := (some .int)) (by decide) rfl ?_
  intro p e s m args below meth c s₁ BB hml hv
  obtain ⟨rfl, hB⟩ := hv
  have hx := BB.exec
  have hb := BB.bytes
  have hr := BB.returns
  have hlk := BB.notSynchronized
  have hts := atoms_spec (ws := wd yM_hand bM_hand 2 (some .int)) BB.pre
  have hown : s.vm.findClass "HandTablesModel" = some m.cls := findClass_of_methodNamed BB.named
  have hS : CallFix p m c bM_hand 2 s _ (wd yM_hand bM_hand 2 (some .int)) "HandTablesModel" := ⟨hx, hb, hml, hown, hts⟩
  obtain ⟨hP, hK⟩ := hB
  have hP : va_P g.1 cl_X (mo_V g th ks kc rn oc hd hs se bd (nI b) dk dp ct bo wi sh lf lc mo ah) s.heap := hP
  have hSS : va_S (mo_fr g) s.heap s.heap [] := va_S.rf
  have hl := lv_entry ([.ref (g.2.2 0), .int q]) (n := 2) (Nat.le_of_ble_eq_true rfl)
  rw [lg_entry_eq]
  generalize (lg_sl ([.ref (g.2.2 0), .int q]) ++ List.replicate (2 - (lg_sl ([.ref (g.2.2 0), .int q])).length) Slot.unset).toArray = ls at hl ⊢
  have hl : lv_has ls 2 [(0, .ref (g.2.2 0)), (1, .int q)] := hl
  obtain ⟨H, eH⟩ : ∃ H, s.heap = H := ⟨_, rfl⟩
  obtain ⟨locs, eL⟩ : ∃ L, ([] : List Loc) = L := ⟨_, rfl⟩
  have hP : va_P g.1 cl_X (mo_V g th ks kc rn oc hd hs se bd (nI b) dk dp ct bo wi sh lf lc mo ah) H := by rw [← eH]; exact hP
  have hSS : va_S (mo_fr g) s.heap H locs := by rw [← eH, ← eL]; exact hSS
  refine mm_go eH eL ?_
  clear eH eL
  refine lv_aload_n hx hb dM_hand_0 rfl (lv_at hl 0 rfl) ?_
  refine lv_iload_n hx hb dM_hand_1 rfl (lv_at hl 1 rfl) ?_
  refine pu_SH (cM_noSeat l _) rfl kM_M_noSeat hS ⟨Nat.le_of_ble_eq_true rfl, Nat.le_of_ble_eq_true rfl⟩ hl.1 rfl (Nat.le_of_ble_eq_true rfl) ⟨Nat.zero_le _, Nat.zero_le _⟩ dM_hand_2 ?_
  refine lv_if_eq (tgt := 12) hx hb dM_hand_5 (by decide) (fun hc1 => ?_) (fun hc1 => ?_)
  · refine lv_aload_n hx hb dM_hand_12 rfl (lv_at hl 0 rfl) ?_
    refine va_get (D := g.1) (ci := 1) (v := .ref (g.2.2 5)) (C := "HandTablesModel") (T := T_M) (N := 20) hx hb hts (fun w hw => wd_in (u_inM w hw)) hown hK hP 0 rfl rfl 7 (by decide) (hts _ (wd_in (gw_mem 464 rfl rfl))) (fun _ h => h) rfl dM_hand_13 ?_
    refine lv_iconst (v := 2) hx hb dM_hand_16 (by decide) ?_
    refine lv_iload_n hx hb dM_hand_17 rfl (lv_at hl 1 rfl) ?_
    refine lv_imul hx hb dM_hand_18 ?_
    refine va_iald hx hb hK hP 5 0 rfl rfl (k_s2 hc1).1 dM_hand_19 ?_
    refine lv_iconst (v := (-1)) hx hb dM_hand_20 (by decide) ?_
    refine lv_icmp_eq (tgt := 32) hx hb dM_hand_21 (by decide) (fun hc2 => ?_) (fun hc2 => ?_)
    · refine lv_iconst (v := 2) hx hb dM_hand_32 (by decide) ?_
      refine lv_goto (tgt := 37) hx hb dM_hand_33 (by decide) ?_
      refine va_put (D := g.1) (ci := 1) (v := .int 2) (ty := .int) (C := "HandTablesModel") (T := T_M) (N := 20) hx hb hts (fun w hw => wd_in (u_inM w hw)) tf_M tf_M_ok n_M hown hK hP (mo_D hap) hSS 0 rfl rfl 0 (by decide) (hts _ (wd_in (gw_mem 457 rfl rfl))) (fun _ h => h) rfl (by decide +kernel) rfl rfl (Nat.le_of_ble_eq_true rfl) dM_hand_37 (fun H locs hP _ hSS => ?_)
      have hP : va_P g.1 cl_X (mo_V g 2 ks kc rn oc hd hs se bd (nI b) dk dp ct bo wi sh lf lc mo ah) H := hP
      refine lv_aload_n hx hb dM_hand_40 rfl (lv_at hl 0 rfl) ?_
      refine va_get (D := g.1) (ci := 1) (v := .int 2) (C := "HandTablesModel") (T := T_M) (N := 20) hx hb hts (fun w hw => wd_in (u_inM w hw)) hown hK hP 0 rfl rfl 0 (by decide) (hts _ (wd_in (gw_mem 457 rfl rfl))) (fun _ h => h) rfl dM_hand_41 ?_
      refine lv_if_le (tgt := 51) hx hb dM_hand_44 (by decide) (fun hc3 => ?_) (fun hc3 => ?_)
      · first | exact absurd hc3 (by decide) | exact absurd (by decide) hc3
      refine lv_iconst (v := 0) hx hb dM_hand_47 (by decide) ?_
      refine lv_goto (tgt := 62) hx hb dM_hand_48 (by decide) ?_
      exact mm_iret (S := (2, ks, kc, rn, oc, hd, hs, se, bd, (nI b), dk, dp, ct, bo, wi, sh, lf, lc, mo, ah)) hx hb hr hlk dM_hand_62 hP hSS (by exact ⟨by (try simp only [if_pos hc1, if_pos hc2]) <;> rfl, rn, oc, hd, hs, by (try simp only [if_pos hc1, if_pos hc2]) <;> rfl⟩)
    · refine lv_aload_n hx hb dM_hand_24 rfl (lv_at hl 0 rfl) ?_
      refine va_get (D := g.1) (ci := 1) (v := .int (nI b)) (C := "HandTablesModel") (T := T_M) (N := 20) hx hb hts (fun w hw => wd_in (u_inM w hw)) hown hK hP 0 rfl rfl 9 (by decide) (hts _ (wd_in (gw_mem 466 rfl rfl))) (fun _ h => h) rfl dM_hand_25 ?_
      refine lv_iconst (v := 3) hx hb dM_hand_28 (by decide) ?_
      refine lv_icmp_ge (tgt := 36) hx hb dM_hand_29 (by decide) (fun hc4 => ?_) (fun hc4 => ?_)
      · refine lv_iconst (v := 0) hx hb dM_hand_36 (by decide) ?_
        refine va_put (D := g.1) (ci := 1) (v := .int 0) (ty := .int) (C := "HandTablesModel") (T := T_M) (N := 20) hx hb hts (fun w hw => wd_in (u_inM w hw)) tf_M tf_M_ok n_M hown hK hP (mo_D hap) hSS 0 rfl rfl 0 (by decide) (hts _ (wd_in (gw_mem 457 rfl rfl))) (fun _ h => h) rfl (by decide +kernel) rfl rfl (Nat.le_of_ble_eq_true rfl) dM_hand_37 (fun H locs hP _ hSS => ?_)
        have hP : va_P g.1 cl_X (mo_V g 0 ks kc rn oc hd hs se bd (nI b) dk dp ct bo wi sh lf lc mo ah) H := hP
        refine lv_aload_n hx hb dM_hand_40 rfl (lv_at hl 0 rfl) ?_
        refine va_get (D := g.1) (ci := 1) (v := .int 0) (C := "HandTablesModel") (T := T_M) (N := 20) hx hb hts (fun w hw => wd_in (u_inM w hw)) hown hK hP 0 rfl rfl 0 (by decide) (hts _ (wd_in (gw_mem 457 rfl rfl))) (fun _ h => h) rfl dM_hand_41 ?_
        refine lv_if_le (tgt := 51) hx hb dM_hand_44 (by decide) (fun hc5 => ?_) (fun hc5 => ?_)
        rotate_left
        · first | exact absurd hc5 (by decide) | exact absurd (by decide) hc5
        refine lv_aload_n hx hb dM_hand_51 rfl (lv_at hl 0 rfl) ?_
        refine lv_aload_n hx hb dM_hand_52 rfl (lv_at hl 0 rfl) ?_
        refine lv_iload_n hx hb dM_hand_53 rfl (lv_at hl 1 rfl) ?_
        refine lv_iconst (v := (-1)) hx hb dM_hand_54 (by decide) ?_
        refine lv_iconst (v := (-1)) hx hb dM_hand_55 (by decide) ?_
        refine mm_V (cM_keyOfSeat l g 0 ks kc rn oc hd hs se bd b dk dp ct bo wi sh lf lc mo ah q (-1) (-1) hap hb5 hbd (k_s2 hc1).1 (k_s2 hc1).2.1 (k_hseq hse (k_s2 hc1).2.2 hc2).1 (k_hseq hse (k_s2 hc1).2.2 hc2).2 (Or.inl (by decide)) (Or.inl (by decide)) (kq_n0 hb5)) rfl kM_M_keyOfSeat hS hK hP ⟨Nat.le_of_ble_eq_true rfl, Nat.le_of_ble_eq_true rfl⟩ hl.1 rfl (Nat.le_of_ble_eq_true rfl) ⟨Nat.zero_le _, Nat.zero_le _⟩ dM_hand_56 hSS (fun v9 S9 H locs hR hP hSS => ?_)
        obtain ⟨rfl, rn6, oc7, hd8, hs9, rfl⟩ := hR
        have hP : va_P g.1 cl_X (mo_V g 0 ks kc rn6 oc7 hd8 hs9 se bd (nI b) dk dp ct bo wi sh lf lc mo ah) H := hP
        refine mm_V (cM_below l g 0 ks kc rn6 oc7 hd8 hs9 se bd (nI b) dk dp ct bo wi sh lf lc mo ah (k_sk se bd b (-1) (-1) q) hap) rfl kM_M_below hS hK hP ⟨Nat.le_of_ble_eq_true rfl, Nat.le_of_ble_eq_true rfl⟩ hl.1 rfl (Nat.le_of_ble_eq_true rfl) ⟨Nat.zero_le _, Nat.zero_le _⟩ dM_hand_59 hSS (fun v9 S9 H locs hR hP hSS => ?_)
        obtain ⟨rfl, rfl⟩ := hR
        have hP : va_P g.1 cl_X (mo_V g 0 ks kc rn6 oc7 hd8 hs9 se bd (nI b) dk dp ct bo wi sh lf lc mo ah) H := hP
        exact mm_iret (S := (0, ks, kc, rn6, oc7, hd8, hs9, se, bd, (nI b), dk, dp, ct, bo, wi, sh, lf, lc, mo, ah)) hx hb hr hlk dM_hand_62 hP hSS (by exact ⟨by (try simp only [if_pos hc1, if_neg hc2, if_pos hc4]) <;> rfl, rn6, oc7, hd8, hs9, by (try simp only [if_pos hc1, if_neg hc2, if_pos hc4]) <;> rfl⟩)
      · refine lv_iconst (v := 2) hx hb dM_hand_32 (by decide) ?_
        refine lv_goto (tgt := 37) hx hb dM_hand_33 (by decide) ?_
        refine va_put (D := g.1) (ci := 1) (v := .int 2) (ty := .int) (C := "HandTablesModel") (T := T_M) (N := 20) hx hb hts (fun w hw => wd_in (u_inM w hw)) tf_M tf_M_ok n_M hown hK hP (mo_D hap) hSS 0 rfl rfl 0 (by decide) (hts _ (wd_in (gw_mem 457 rfl rfl))) (fun _ h => h) rfl (by decide +kernel) rfl rfl (Nat.le_of_ble_eq_true rfl) dM_hand_37 (fun H locs hP _ hSS => ?_)
        have hP : va_P g.1 cl_X (mo_V g 2 ks kc rn oc hd hs se bd (nI b) dk dp ct bo wi sh lf lc mo ah) H := hP
        refine lv_aload_n hx hb dM_hand_40 rfl (lv_at hl 0 rfl) ?_
        refine va_get (D := g.1) (ci := 1) (v := .int 2) (C := "HandTablesModel") (T := T_M) (N := 20) hx hb hts (fun w hw => wd_in (u_inM w hw)) hown hK hP 0 rfl rfl 0 (by decide) (hts _ (wd_in (gw_mem 457 rfl rfl))) (fun _ h => h) rfl dM_hand_41 ?_
        refine lv_if_le (tgt := 51) hx hb dM_hand_44 (by decide) (fun hc10 => ?_) (fun hc10 => ?_)
        · first | exact absurd hc10 (by decide) | exact absurd (by decide) hc10
        refine lv_iconst (v := 0) hx hb dM_hand_47 (by decide) ?_
        refine lv_goto (tgt := 62) hx hb dM_hand_48 (by decide) ?_
        exact mm_iret (S := (2, ks, kc, rn, oc, hd, hs, se, bd, (nI b), dk, dp, ct, bo, wi, sh, lf, lc, mo, ah)) hx hb hr hlk dM_hand_62 hP hSS (by exact ⟨by (try simp only [if_pos hc1, if_neg hc2, if_neg hc4]) <;> rfl, rn, oc, hd, hs, by (try simp only [if_pos hc1, if_neg hc2, if_neg hc4]) <;> rfl⟩)
  · refine lv_iconst (v := 1) hx hb dM_hand_8 (by decide) ?_
    refine lv_goto (tgt := 37) hx hb dM_hand_9 (by decide) ?_
    refine va_put (D := g.1) (ci := 1) (v := .int 1) (ty := .int) (C := "HandTablesModel") (T := T_M) (N := 20) hx hb hts (fun w hw => wd_in (u_inM w hw)) tf_M tf_M_ok n_M hown hK hP (mo_D hap) hSS 0 rfl rfl 0 (by decide) (hts _ (wd_in (gw_mem 457 rfl rfl))) (fun _ h => h) rfl (by decide +kernel) rfl rfl (Nat.le_of_ble_eq_true rfl) dM_hand_37 (fun H locs hP _ hSS => ?_)
    have hP : va_P g.1 cl_X (mo_V g 1 ks kc rn oc hd hs se bd (nI b) dk dp ct bo wi sh lf lc mo ah) H := hP
    refine lv_aload_n hx hb dM_hand_40 rfl (lv_at hl 0 rfl) ?_
    refine va_get (D := g.1) (ci := 1) (v := .int 1) (C := "HandTablesModel") (T := T_M) (N := 20) hx hb hts (fun w hw => wd_in (u_inM w hw)) hown hK hP 0 rfl rfl 0 (by decide) (hts _ (wd_in (gw_mem 457 rfl rfl))) (fun _ h => h) rfl dM_hand_41 ?_
    refine lv_if_le (tgt := 51) hx hb dM_hand_44 (by decide) (fun hc11 => ?_) (fun hc11 => ?_)
    · first | exact absurd hc11 (by decide) | exact absurd (by decide) hc11
    refine lv_iconst (v := 0) hx hb dM_hand_47 (by decide) ?_
    refine lv_goto (tgt := 62) hx hb dM_hand_48 (by decide) ?_
    exact mm_iret (S := (1, ks, kc, rn, oc, hd, hs, se, bd, (nI b), dk, dp, ct, bo, wi, sh, lf, lc, mo, ah)) hx hb hr hlk dM_hand_62 hP hSS (by exact ⟨by (try simp only [if_neg hc1]) <;> rfl, rn, oc, hd, hs, by (try simp only [if_neg hc1]) <;> rfl⟩)
set_option maxHeartbeats 4000000 in
set_option maxRecDepth 100000 in
theorem cM_ahead (l : Launch) (g : mo_E) (th : Int32) (ks : Nat → Int32) (kc : Int32) (rn : Nat → Int32) (oc : Nat → Int32) (hd : Nat → Int32) (hs : Int32) (se : Nat → Int32) (bd : Nat → Int32) (b : Nat) (dk : Nat → Int32) (dp : Int32) (ct : Int32) (bo : Int32) (wi : Nat → Int32) (sh : Nat → Int32) (lf : Nat → Int32) (lc : Int32) (mo : Int32) (ah : Int32)   (hap : mo_ap g) (hb5 : b ≤ 5) (hbd : ∀ i, i < b → vp_in (bd i) 52) (hse : k_hse se) : mm_M l yM_ahead bM_ahead 1 (some .int) 6 [.ref (g.2.2 0)] g (th, ks, kc, rn, oc, hd, hs, se, bd, (nI b), dk, dp, ct, bo, wi, sh, lf, lc, mo, ah) (fun v9 S9 => v9 = some (.int (if k_empty se = 0 then (if 3 ≤ nI b then k_lead se bd b (-1) (-1) else 0) else 0)) ∧ ∃ (rn' : Nat → Int32) (oc' : Nat → Int32) (hd' : Nat → Int32) (hs' : Int32) (mo' : Int32) (ah' : Int32), S9 = ((if k_empty se = 0 then (if 3 ≤ nI b then 0 else 1) else 1), ks, kc, rn', oc', hd', hs', se, bd, (nI b), dk, dp, ct, bo, wi, sh, lf, lc, mo', ah')) := by
  refine Met.ofW (cc := bM_ahead) (maxL := 1) (ret := (some .int)) (by decide) rfl ?_
  intro p e s m args below meth c s₁ BB hml hv
  obtain ⟨rfl, hB⟩ := hv
  have hx := BB.exec
  have hb := BB.bytes
  have hr := BB.returns
  have hlk := BB.notSynchronized
  have hts := atoms_spec (ws := wd yM_ahead bM_ahead 1 (some .int)) BB.pre
  have hown : s.vm.findClass "HandTablesModel" = some m.cls := findClass_of_methodNamed BB.named
  have hS : CallFix p m c bM_ahead 1 s _ (wd yM_ahead bM_ahead 1 (some .int)) "HandTablesModel" := ⟨hx, hb, hml, hown, hts⟩
  obtain ⟨hP, hK⟩ := hB
  have hP : va_P g.1 cl_X (mo_V g th ks kc rn oc hd hs se bd (nI b) dk dp ct bo wi sh lf lc mo ah) s.heap := hP
  have hSS : va_S (mo_fr g) s.heap s.heap [] := va_S.rf
  have hl := lv_entry ([.ref (g.2.2 0)]) (n := 1) (Nat.le_of_ble_eq_true rfl)
  rw [lg_entry_eq]
  generalize (lg_sl ([.ref (g.2.2 0)]) ++ List.replicate (1 - (lg_sl ([.ref (g.2.2 0)])).length) Slot.unset).toArray = ls at hl ⊢
  have hl : lv_has ls 1 [(0, .ref (g.2.2 0))] := hl
  obtain ⟨H, eH⟩ : ∃ H, s.heap = H := ⟨_, rfl⟩
  obtain ⟨locs, eL⟩ : ∃ L, ([] : List Loc) = L := ⟨_, rfl⟩
  have hP : va_P g.1 cl_X (mo_V g th ks kc rn oc hd hs se bd (nI b) dk dp ct bo wi sh lf lc mo ah) H := by rw [← eH]; exact hP
  have hSS : va_S (mo_fr g) s.heap H locs := by rw [← eH, ← eL]; exact hSS
  refine mm_go eH eL ?_
  clear eH eL
  refine lv_aload_n hx hb dM_ahead_0 rfl (lv_at hl 0 rfl) ?_
  refine lv_aload_n hx hb dM_ahead_1 rfl (lv_at hl 0 rfl) ?_
  refine mm_V (cM_isEmpty l g th ks kc rn oc hd hs se bd (nI b) dk dp ct bo wi sh lf lc mo ah hap) rfl kM_M_isEmpty hS hK hP ⟨Nat.le_of_ble_eq_true rfl, Nat.le_of_ble_eq_true rfl⟩ hl.1 rfl (Nat.le_of_ble_eq_true rfl) ⟨Nat.zero_le _, Nat.zero_le _⟩ dM_ahead_2 hSS (fun v9 S9 H locs hR hP hSS => ?_)
  obtain ⟨rfl, rfl⟩ := hR
  have hP : va_P g.1 cl_X (mo_V g th ks kc rn oc hd hs se bd (nI b) dk dp ct bo wi sh lf lc mo ah) H := hP
  refine lv_if_ne (tgt := 16) hx hb dM_ahead_5 (by decide) (fun hc1 => ?_) (fun hc1 => ?_)
  · refine lv_iconst (v := 1) hx hb dM_ahead_16 (by decide) ?_
    refine lv_goto (tgt := 21) hx hb dM_ahead_17 (by decide) ?_
    refine va_put (D := g.1) (ci := 1) (v := .int 1) (ty := .int) (C := "HandTablesModel") (T := T_M) (N := 20) hx hb hts (fun w hw => wd_in (u_inM w hw)) tf_M tf_M_ok n_M hown hK hP (mo_D hap) hSS 0 rfl rfl 0 (by decide) (hts _ (wd_in (gw_mem 457 rfl rfl))) (fun _ h => h) rfl (by decide +kernel) rfl rfl (Nat.le_of_ble_eq_true rfl) dM_ahead_21 (fun H locs hP _ hSS => ?_)
    have hP : va_P g.1 cl_X (mo_V g 1 ks kc rn oc hd hs se bd (nI b) dk dp ct bo wi sh lf lc mo ah) H := hP
    refine lv_aload_n hx hb dM_ahead_24 rfl (lv_at hl 0 rfl) ?_
    refine va_get (D := g.1) (ci := 1) (v := .int 1) (C := "HandTablesModel") (T := T_M) (N := 20) hx hb hts (fun w hw => wd_in (u_inM w hw)) hown hK hP 0 rfl rfl 0 (by decide) (hts _ (wd_in (gw_mem 457 rfl rfl))) (fun _ h => h) rfl dM_ahead_25 ?_
    refine lv_if_le (tgt := 35) hx hb dM_ahead_28 (by decide) (fun hc2 => ?_) (fun hc2 => ?_)
    · first | exact absurd hc2 (by decide) | exact absurd (by decide) hc2
    refine lv_iconst (v := 0) hx hb dM_ahead_31 (by decide) ?_
    refine lv_goto (tgt := 41) hx hb dM_ahead_32 (by decide) ?_
    exact mm_iret (S := (1, ks, kc, rn, oc, hd, hs, se, bd, (nI b), dk, dp, ct, bo, wi, sh, lf, lc, mo, ah)) hx hb hr hlk dM_ahead_41 hP hSS (by exact ⟨by (try simp only [if_neg hc1]) <;> rfl, rn, oc, hd, hs, mo, ah, by (try simp only [if_neg hc1]) <;> rfl⟩)
  · refine lv_aload_n hx hb dM_ahead_8 rfl (lv_at hl 0 rfl) ?_
    refine va_get (D := g.1) (ci := 1) (v := .int (nI b)) (C := "HandTablesModel") (T := T_M) (N := 20) hx hb hts (fun w hw => wd_in (u_inM w hw)) hown hK hP 0 rfl rfl 9 (by decide) (hts _ (wd_in (gw_mem 466 rfl rfl))) (fun _ h => h) rfl dM_ahead_9 ?_
    refine lv_iconst (v := 3) hx hb dM_ahead_12 (by decide) ?_
    refine lv_icmp_ge (tgt := 20) hx hb dM_ahead_13 (by decide) (fun hc3 => ?_) (fun hc3 => ?_)
    · refine lv_iconst (v := 0) hx hb dM_ahead_20 (by decide) ?_
      refine va_put (D := g.1) (ci := 1) (v := .int 0) (ty := .int) (C := "HandTablesModel") (T := T_M) (N := 20) hx hb hts (fun w hw => wd_in (u_inM w hw)) tf_M tf_M_ok n_M hown hK hP (mo_D hap) hSS 0 rfl rfl 0 (by decide) (hts _ (wd_in (gw_mem 457 rfl rfl))) (fun _ h => h) rfl (by decide +kernel) rfl rfl (Nat.le_of_ble_eq_true rfl) dM_ahead_21 (fun H locs hP _ hSS => ?_)
      have hP : va_P g.1 cl_X (mo_V g 0 ks kc rn oc hd hs se bd (nI b) dk dp ct bo wi sh lf lc mo ah) H := hP
      refine lv_aload_n hx hb dM_ahead_24 rfl (lv_at hl 0 rfl) ?_
      refine va_get (D := g.1) (ci := 1) (v := .int 0) (C := "HandTablesModel") (T := T_M) (N := 20) hx hb hts (fun w hw => wd_in (u_inM w hw)) hown hK hP 0 rfl rfl 0 (by decide) (hts _ (wd_in (gw_mem 457 rfl rfl))) (fun _ h => h) rfl dM_ahead_25 ?_
      refine lv_if_le (tgt := 35) hx hb dM_ahead_28 (by decide) (fun hc4 => ?_) (fun hc4 => ?_)
      rotate_left
      · first | exact absurd hc4 (by decide) | exact absurd (by decide) hc4
      refine lv_aload_n hx hb dM_ahead_35 rfl (lv_at hl 0 rfl) ?_
      refine lv_iconst (v := (-1)) hx hb dM_ahead_36 (by decide) ?_
      refine lv_iconst (v := (-1)) hx hb dM_ahead_37 (by decide) ?_
      refine mm_V (cM_leaders l g 0 ks kc rn oc hd hs se bd b dk dp ct bo wi sh lf lc mo ah (-1) (-1) hap hb5 hbd hse (Or.inl (by decide)) (Or.inl (by decide)) (kq_n0 hb5)) rfl kM_M_leaders hS hK hP ⟨Nat.le_of_ble_eq_true rfl, Nat.le_of_ble_eq_true rfl⟩ hl.1 rfl (Nat.le_of_ble_eq_true rfl) ⟨Nat.zero_le _, Nat.zero_le _⟩ dM_ahead_38 hSS (fun v9 S9 H locs hR hP hSS => ?_)
      obtain ⟨rfl, rn5, oc6, hd7, hs8, mo9, ah10, rfl⟩ := hR
      have hP : va_P g.1 cl_X (mo_V g 0 ks kc rn5 oc6 hd7 hs8 se bd (nI b) dk dp ct bo wi sh lf lc mo9 ah10) H := hP
      exact mm_iret (S := (0, ks, kc, rn5, oc6, hd7, hs8, se, bd, (nI b), dk, dp, ct, bo, wi, sh, lf, lc, mo9, ah10)) hx hb hr hlk dM_ahead_41 hP hSS (by exact ⟨by (try simp only [if_pos hc1, if_pos hc3]) <;> rfl, rn5, oc6, hd7, hs8, mo9, ah10, by (try simp only [if_pos hc1, if_pos hc3]) <;> rfl⟩)
    · refine lv_iconst (v := 1) hx hb dM_ahead_16 (by decide) ?_
      refine lv_goto (tgt := 21) hx hb dM_ahead_17 (by decide) ?_
      refine va_put (D := g.1) (ci := 1) (v := .int 1) (ty := .int) (C := "HandTablesModel") (T := T_M) (N := 20) hx hb hts (fun w hw => wd_in (u_inM w hw)) tf_M tf_M_ok n_M hown hK hP (mo_D hap) hSS 0 rfl rfl 0 (by decide) (hts _ (wd_in (gw_mem 457 rfl rfl))) (fun _ h => h) rfl (by decide +kernel) rfl rfl (Nat.le_of_ble_eq_true rfl) dM_ahead_21 (fun H locs hP _ hSS => ?_)
      have hP : va_P g.1 cl_X (mo_V g 1 ks kc rn oc hd hs se bd (nI b) dk dp ct bo wi sh lf lc mo ah) H := hP
      refine lv_aload_n hx hb dM_ahead_24 rfl (lv_at hl 0 rfl) ?_
      refine va_get (D := g.1) (ci := 1) (v := .int 1) (C := "HandTablesModel") (T := T_M) (N := 20) hx hb hts (fun w hw => wd_in (u_inM w hw)) hown hK hP 0 rfl rfl 0 (by decide) (hts _ (wd_in (gw_mem 457 rfl rfl))) (fun _ h => h) rfl dM_ahead_25 ?_
      refine lv_if_le (tgt := 35) hx hb dM_ahead_28 (by decide) (fun hc11 => ?_) (fun hc11 => ?_)
      · first | exact absurd hc11 (by decide) | exact absurd (by decide) hc11
      refine lv_iconst (v := 0) hx hb dM_ahead_31 (by decide) ?_
      refine lv_goto (tgt := 41) hx hb dM_ahead_32 (by decide) ?_
      exact mm_iret (S := (1, ks, kc, rn, oc, hd, hs, se, bd, (nI b), dk, dp, ct, bo, wi, sh, lf, lc, mo, ah)) hx hb hr hlk dM_ahead_41 hP hSS (by exact ⟨by (try simp only [if_pos hc1, if_neg hc3]) <;> rfl, rn, oc, hd, hs, mo, ah, by (try simp only [if_pos hc1, if_neg hc3]) <;> rfl⟩)
set_option maxHeartbeats 4000000 in
set_option maxRecDepth 100000 in
theorem cM_boards (l : Launch) (g : mo_E) (th : Int32) (ks : Nat → Int32) (kc : Int32) (rn : Nat → Int32) (oc : Nat → Int32) (hd : Nat → Int32) (hs : Int32) (se : Nat → Int32) (bd : Nat → Int32) (b : Nat) (dk : Nat → Int32) (dp : Int32) (ct : Int32) (bo : Int32) (wi : Nat → Int32) (sh : Nat → Int32) (lf : Nat → Int32) (lc : Int32) (mo : Int32) (ah : Int32)   (hap : mo_ap g) (hb5 : b ≤ 5) : mm_M l yM_boards bM_boards 1 (some .int) 2 [.ref (g.2.2 0)] g (th, ks, kc, rn, oc, hd, hs, se, bd, (nI b), dk, dp, ct, bo, wi, sh, lf, lc, mo, ah) (fun v9 S9 => v9 = some (.int (if 3 ≤ nI b then (if nI b = 5 then 1 else if nI b = 4 then (k_left se bd b lf).1 else (k_left se bd b lf).1 * ((k_left se bd b lf).1 - 1) / 2) else 0)) ∧ ∃ (lf' : Nat → Int32) (lc' : Int32), S9 = ((if 3 ≤ nI b then 0 else 1), ks, kc, rn, oc, hd, hs, se, bd, (nI b), dk, dp, ct, bo, wi, sh, lf', lc', mo, ah)) := by
  refine Met.ofW (cc := bM_boards) (maxL := 1) (ret := (some .int)) (by decide) rfl ?_
  intro p e s m args below meth c s₁ BB hml hv
  obtain ⟨rfl, hB⟩ := hv
  have hx := BB.exec
  have hb := BB.bytes
  have hr := BB.returns
  have hlk := BB.notSynchronized
  have hts := atoms_spec (ws := wd yM_boards bM_boards 1 (some .int)) BB.pre
  have hown : s.vm.findClass "HandTablesModel" = some m.cls := findClass_of_methodNamed BB.named
  have hS : CallFix p m c bM_boards 1 s _ (wd yM_boards bM_boards 1 (some .int)) "HandTablesModel" := ⟨hx, hb, hml, hown, hts⟩
  obtain ⟨hP, hK⟩ := hB
  have hP : va_P g.1 cl_X (mo_V g th ks kc rn oc hd hs se bd (nI b) dk dp ct bo wi sh lf lc mo ah) s.heap := hP
  have hSS : va_S (mo_fr g) s.heap s.heap [] := va_S.rf
  have hl := lv_entry ([.ref (g.2.2 0)]) (n := 1) (Nat.le_of_ble_eq_true rfl)
  rw [lg_entry_eq]
  generalize (lg_sl ([.ref (g.2.2 0)]) ++ List.replicate (1 - (lg_sl ([.ref (g.2.2 0)])).length) Slot.unset).toArray = ls at hl ⊢
  have hl : lv_has ls 1 [(0, .ref (g.2.2 0))] := hl
  obtain ⟨H, eH⟩ : ∃ H, s.heap = H := ⟨_, rfl⟩
  obtain ⟨locs, eL⟩ : ∃ L, ([] : List Loc) = L := ⟨_, rfl⟩
  have hP : va_P g.1 cl_X (mo_V g th ks kc rn oc hd hs se bd (nI b) dk dp ct bo wi sh lf lc mo ah) H := by rw [← eH]; exact hP
  have hSS : va_S (mo_fr g) s.heap H locs := by rw [← eH, ← eL]; exact hSS
  refine mm_go eH eL ?_
  clear eH eL
  refine lv_aload_n hx hb dM_boards_0 rfl (lv_at hl 0 rfl) ?_
  refine lv_aload_n hx hb dM_boards_1 rfl (lv_at hl 0 rfl) ?_
  refine va_get (D := g.1) (ci := 1) (v := .int (nI b)) (C := "HandTablesModel") (T := T_M) (N := 20) hx hb hts (fun w hw => wd_in (u_inM w hw)) hown hK hP 0 rfl rfl 9 (by decide) (hts _ (wd_in (gw_mem 466 rfl rfl))) (fun _ h => h) rfl dM_boards_2 ?_
  refine lv_iconst (v := 3) hx hb dM_boards_5 (by decide) ?_
  refine lv_icmp_ge (tgt := 13) hx hb dM_boards_6 (by decide) (fun hc1 => ?_) (fun hc1 => ?_)
  · refine lv_iconst (v := 0) hx hb dM_boards_13 (by decide) ?_
    refine va_put (D := g.1) (ci := 1) (v := .int 0) (ty := .int) (C := "HandTablesModel") (T := T_M) (N := 20) hx hb hts (fun w hw => wd_in (u_inM w hw)) tf_M tf_M_ok n_M hown hK hP (mo_D hap) hSS 0 rfl rfl 0 (by decide) (hts _ (wd_in (gw_mem 457 rfl rfl))) (fun _ h => h) rfl (by decide +kernel) rfl rfl (Nat.le_of_ble_eq_true rfl) dM_boards_14 (fun H locs hP _ hSS => ?_)
    have hP : va_P g.1 cl_X (mo_V g 0 ks kc rn oc hd hs se bd (nI b) dk dp ct bo wi sh lf lc mo ah) H := hP
    refine lv_aload_n hx hb dM_boards_17 rfl (lv_at hl 0 rfl) ?_
    refine va_get (D := g.1) (ci := 1) (v := .int 0) (C := "HandTablesModel") (T := T_M) (N := 20) hx hb hts (fun w hw => wd_in (u_inM w hw)) hown hK hP 0 rfl rfl 0 (by decide) (hts _ (wd_in (gw_mem 457 rfl rfl))) (fun _ h => h) rfl dM_boards_18 ?_
    refine lv_if_le (tgt := 26) hx hb dM_boards_21 (by decide) (fun hc2 => ?_) (fun hc2 => ?_)
    rotate_left
    · first | exact absurd hc2 (by decide) | exact absurd (by decide) hc2
    refine lv_aload_n hx hb dM_boards_26 rfl (lv_at hl 0 rfl) ?_
    refine mm_V (cM_findLeft l g 0 ks kc rn oc hd hs se bd b dk dp ct bo wi sh lf lc mo ah hap hb5) rfl kM_M_findLeft hS hK hP ⟨Nat.le_of_ble_eq_true rfl, Nat.le_of_ble_eq_true rfl⟩ hl.1 rfl (Nat.le_of_ble_eq_true rfl) ⟨Nat.zero_le _, Nat.zero_le _⟩ dM_boards_27 hSS (fun v9 S9 H locs hR hP hSS => ?_)
    obtain ⟨rfl, rfl⟩ := hR
    have hP : va_P g.1 cl_X (mo_V g 0 ks kc rn oc hd hs se bd (nI b) dk dp ct bo wi sh ((k_left se bd b lf).2) ((k_left se bd b lf).1) mo ah) H := hP
    refine lv_aload_n hx hb dM_boards_30 rfl (lv_at hl 0 rfl) ?_
    refine va_get (D := g.1) (ci := 1) (v := .int (nI b)) (C := "HandTablesModel") (T := T_M) (N := 20) hx hb hts (fun w hw => wd_in (u_inM w hw)) hown hK hP 0 rfl rfl 9 (by decide) (hts _ (wd_in (gw_mem 466 rfl rfl))) (fun _ h => h) rfl dM_boards_31 ?_
    refine lv_iconst (v := 5) hx hb dM_boards_34 (by decide) ?_
    refine lv_icmp_ne (tgt := 42) hx hb dM_boards_35 (by decide) (fun hc3 => ?_) (fun hc3 => ?_)
    · refine lv_aload_n hx hb dM_boards_42 rfl (lv_at hl 0 rfl) ?_
      refine va_get (D := g.1) (ci := 1) (v := .int (nI b)) (C := "HandTablesModel") (T := T_M) (N := 20) hx hb hts (fun w hw => wd_in (u_inM w hw)) hown hK hP 0 rfl rfl 9 (by decide) (hts _ (wd_in (gw_mem 466 rfl rfl))) (fun _ h => h) rfl dM_boards_43 ?_
      refine lv_iconst (v := 4) hx hb dM_boards_46 (by decide) ?_
      refine lv_icmp_ne (tgt := 57) hx hb dM_boards_47 (by decide) (fun hc4 => ?_) (fun hc4 => ?_)
      · refine lv_aload_n hx hb dM_boards_57 rfl (lv_at hl 0 rfl) ?_
        refine va_get (D := g.1) (ci := 1) (v := .int ((k_left se bd b lf).1)) (C := "HandTablesModel") (T := T_M) (N := 20) hx hb hts (fun w hw => wd_in (u_inM w hw)) hown hK hP 0 rfl rfl 17 (by decide) (hts _ (wd_in (gw_mem 474 rfl rfl))) (fun _ h => h) rfl dM_boards_58 ?_
        refine lv_aload_n hx hb dM_boards_61 rfl (lv_at hl 0 rfl) ?_
        refine va_get (D := g.1) (ci := 1) (v := .int ((k_left se bd b lf).1)) (C := "HandTablesModel") (T := T_M) (N := 20) hx hb hts (fun w hw => wd_in (u_inM w hw)) hown hK hP 0 rfl rfl 17 (by decide) (hts _ (wd_in (gw_mem 474 rfl rfl))) (fun _ h => h) rfl dM_boards_62 ?_
        refine lv_iconst (v := 1) hx hb dM_boards_65 (by decide) ?_
        refine lv_isub hx hb dM_boards_66 ?_
        refine lv_imul hx hb dM_boards_67 ?_
        refine lv_iconst (v := 2) hx hb dM_boards_68 (by decide) ?_
        refine lv_idiv hx hb dM_boards_69 (by decide) ?_
        exact mm_iret (S := (0, ks, kc, rn, oc, hd, hs, se, bd, (nI b), dk, dp, ct, bo, wi, sh, (k_left se bd b lf).2, (k_left se bd b lf).1, mo, ah)) hx hb hr hlk dM_boards_70 hP hSS (by exact ⟨by (try simp only [if_pos hc1, if_neg hc3, if_neg hc4]) <;> rfl, (k_left se bd b lf).2, (k_left se bd b lf).1, by (try simp only [if_pos hc1, if_neg hc3, if_neg hc4]) <;> rfl⟩)
      · refine lv_aload_n hx hb dM_boards_50 rfl (lv_at hl 0 rfl) ?_
        refine va_get (D := g.1) (ci := 1) (v := .int ((k_left se bd b lf).1)) (C := "HandTablesModel") (T := T_M) (N := 20) hx hb hts (fun w hw => wd_in (u_inM w hw)) hown hK hP 0 rfl rfl 17 (by decide) (hts _ (wd_in (gw_mem 474 rfl rfl))) (fun _ h => h) rfl dM_boards_51 ?_
        refine lv_goto (tgt := 70) hx hb dM_boards_54 (by decide) ?_
        exact mm_iret (S := (0, ks, kc, rn, oc, hd, hs, se, bd, (nI b), dk, dp, ct, bo, wi, sh, (k_left se bd b lf).2, (k_left se bd b lf).1, mo, ah)) hx hb hr hlk dM_boards_70 hP hSS (by exact ⟨by (try simp only [if_pos hc1, if_neg hc3, if_pos hc4]) <;> rfl, (k_left se bd b lf).2, (k_left se bd b lf).1, by (try simp only [if_pos hc1, if_neg hc3, if_pos hc4]) <;> rfl⟩)
    · refine lv_iconst (v := 1) hx hb dM_boards_38 (by decide) ?_
      refine lv_goto (tgt := 70) hx hb dM_boards_39 (by decide) ?_
      exact mm_iret (S := (0, ks, kc, rn, oc, hd, hs, se, bd, (nI b), dk, dp, ct, bo, wi, sh, (k_left se bd b lf).2, (k_left se bd b lf).1, mo, ah)) hx hb hr hlk dM_boards_70 hP hSS (by exact ⟨by (try simp only [if_pos hc1, if_pos hc3]) <;> rfl, (k_left se bd b lf).2, (k_left se bd b lf).1, by (try simp only [if_pos hc1, if_pos hc3]) <;> rfl⟩)
  · refine lv_iconst (v := 1) hx hb dM_boards_9 (by decide) ?_
    refine lv_goto (tgt := 14) hx hb dM_boards_10 (by decide) ?_
    refine va_put (D := g.1) (ci := 1) (v := .int 1) (ty := .int) (C := "HandTablesModel") (T := T_M) (N := 20) hx hb hts (fun w hw => wd_in (u_inM w hw)) tf_M tf_M_ok n_M hown hK hP (mo_D hap) hSS 0 rfl rfl 0 (by decide) (hts _ (wd_in (gw_mem 457 rfl rfl))) (fun _ h => h) rfl (by decide +kernel) rfl rfl (Nat.le_of_ble_eq_true rfl) dM_boards_14 (fun H locs hP _ hSS => ?_)
    have hP : va_P g.1 cl_X (mo_V g 1 ks kc rn oc hd hs se bd (nI b) dk dp ct bo wi sh lf lc mo ah) H := hP
    refine lv_aload_n hx hb dM_boards_17 rfl (lv_at hl 0 rfl) ?_
    refine va_get (D := g.1) (ci := 1) (v := .int 1) (C := "HandTablesModel") (T := T_M) (N := 20) hx hb hts (fun w hw => wd_in (u_inM w hw)) hown hK hP 0 rfl rfl 0 (by decide) (hts _ (wd_in (gw_mem 457 rfl rfl))) (fun _ h => h) rfl dM_boards_18 ?_
    refine lv_if_le (tgt := 26) hx hb dM_boards_21 (by decide) (fun hc5 => ?_) (fun hc5 => ?_)
    · first | exact absurd hc5 (by decide) | exact absurd (by decide) hc5
    refine lv_iconst (v := 0) hx hb dM_boards_24 (by decide) ?_
    exact mm_iret (S := (1, ks, kc, rn, oc, hd, hs, se, bd, (nI b), dk, dp, ct, bo, wi, sh, lf, lc, mo, ah)) hx hb hr hlk dM_boards_25 hP hSS (by exact ⟨by (try simp only [if_neg hc1]) <;> rfl, lf, lc, by (try simp only [if_neg hc1]) <;> rfl⟩)
def ku_lp (h f : Nat → Int32) (b : Nat) (q : Int32) : Nat → Int64 → Int64
  | 0, z => z
  | n + 1, z => if k_stands h f b (nI (52 - (n + 1))) (-1) = 0 then (if k_lead h f b (nI (52 - (n + 1))) (-1) = jli 1 q then ku_lp h f b q n (z ||| jl 1 (nI (52 - (n + 1)))) else ku_lp h f b q n z) else ku_lp h f b q n z
def k_outs (h f : Nat → Int32) (b : Nat) (q : Int32) : Int64 := ku_lp h f b q 52 0
theorem k_b4 {b : Nat} (h : b ≤ 5) (h4 : nI b ≤ 4) : b ≤ 4 := (nI_leI (b := 4) (by omega) (by decide)).mp h4
set_option maxHeartbeats 4000000 in
set_option maxRecDepth 100000 in
theorem cM_outs (l : Launch) (g : mo_E) (th : Int32) (ks : Nat → Int32) (kc : Int32) (rn : Nat → Int32) (oc : Nat → Int32) (hd : Nat → Int32) (hs : Int32) (se : Nat → Int32) (bd : Nat → Int32) (b : Nat) (dk : Nat → Int32) (dp : Int32) (ct : Int32) (bo : Int32) (wi : Nat → Int32) (sh : Nat → Int32) (lf : Nat → Int32) (lc : Int32) (mo : Int32) (ah : Int32) (q : Int32)  (hap : mo_ap g) (hb5 : b ≤ 5) (hbd : ∀ i, i < b → vp_in (bd i) 52) (hse : k_hse se) : mm_M l yM_outs bM_outs 5 (some .long) 6 [.ref (g.2.2 0), .int q] g (th, ks, kc, rn, oc, hd, hs, se, bd, (nI b), dk, dp, ct, bo, wi, sh, lf, lc, mo, ah) (fun v9 S9 => v9 = some (.long (if m_noSeat q = 0 then (if se (2 * q).toNatClampNeg = -1 then 0 else if nI b < 3 then 0 else if nI b ≤ 4 then k_outs se bd b q else 0) else 0)) ∧ ∃ (rn' : Nat → Int32) (oc' : Nat → Int32) (hd' : Nat → Int32) (hs' : Int32) (mo' : Int32) (ah' : Int32), S9 = ((if m_noSeat q = 0 then (if se (2 * q).toNatClampNeg = -1 then 2 else if nI b < 3 then 2 else if nI b ≤ 4 then 0 else 2) else 1), ks, kc, rn', oc', hd', hs', se, bd, (nI b), dk, dp, ct, bo, wi, sh, lf, lc, mo', ah')) := by
  refine Met.ofW (cc := bM_outs) (maxL := 5) (ret := (some .long)) (by decide) rfl ?_
  intro p e s m args below meth c s₁ BB hml hv
  obtain ⟨rfl, hB⟩ := hv
  have hx := BB.exec
  have hb := BB.bytes
  have hr := BB.returns
  have hlk := BB.notSynchronized
  have hts := atoms_spec (ws := wd yM_outs bM_outs 5 (some .long)) BB.pre
  have hown : s.vm.findClass "HandTablesModel" = some m.cls := findClass_of_methodNamed BB.named
  have hS : CallFix p m c bM_outs 5 s _ (wd yM_outs bM_outs 5 (some .long)) "HandTablesModel" := ⟨hx, hb, hml, hown, hts⟩
  obtain ⟨hP, hK⟩ := hB
  have hP : va_P g.1 cl_X (mo_V g th ks kc rn oc hd hs se bd (nI b) dk dp ct bo wi sh lf lc mo ah) s.heap := hP
  have hSS : va_S (mo_fr g) s.heap s.heap [] := va_S.rf
  have hl := lv_entry ([.ref (g.2.2 0), .int q]) (n := 5) (Nat.le_of_ble_eq_true rfl)
  rw [lg_entry_eq]
  generalize (lg_sl ([.ref (g.2.2 0), .int q]) ++ List.replicate (5 - (lg_sl ([.ref (g.2.2 0), .int q])).length) Slot.unset).toArray = ls at hl ⊢
  have hl : lv_has ls 5 [(0, .ref (g.2.2 0)), (1, .int q)] := hl
  obtain ⟨H, eH⟩ : ∃ H, s.heap = H := ⟨_, rfl⟩
  obtain ⟨locs, eL⟩ : ∃ L, ([] : List Loc) = L := ⟨_, rfl⟩
  have hP : va_P g.1 cl_X (mo_V g th ks kc rn oc hd hs se bd (nI b) dk dp ct bo wi sh lf lc mo ah) H := by rw [← eH]; exact hP
  have hSS : va_S (mo_fr g) s.heap H locs := by rw [← eH, ← eL]; exact hSS
  refine mm_go eH eL ?_
  clear eH eL
  refine lv_aload_n hx hb dM_outs_0 rfl (lv_at hl 0 rfl) ?_
  refine lv_iload_n hx hb dM_outs_1 rfl (lv_at hl 1 rfl) ?_
  refine pu_SH (cM_noSeat l _) rfl kM_M_noSeat hS ⟨Nat.le_of_ble_eq_true rfl, Nat.le_of_ble_eq_true rfl⟩ hl.1 rfl (Nat.le_of_ble_eq_true rfl) ⟨Nat.zero_le _, Nat.zero_le _⟩ dM_outs_2 ?_
  refine lv_if_eq (tgt := 12) hx hb dM_outs_5 (by decide) (fun hc1 => ?_) (fun hc1 => ?_)
  · refine lv_aload_n hx hb dM_outs_12 rfl (lv_at hl 0 rfl) ?_
    refine va_get (D := g.1) (ci := 1) (v := .ref (g.2.2 5)) (C := "HandTablesModel") (T := T_M) (N := 20) hx hb hts (fun w hw => wd_in (u_inM w hw)) hown hK hP 0 rfl rfl 7 (by decide) (hts _ (wd_in (gw_mem 464 rfl rfl))) (fun _ h => h) rfl dM_outs_13 ?_
    refine lv_iconst (v := 2) hx hb dM_outs_16 (by decide) ?_
    refine lv_iload_n hx hb dM_outs_17 rfl (lv_at hl 1 rfl) ?_
    refine lv_imul hx hb dM_outs_18 ?_
    refine va_iald hx hb hK hP 5 0 rfl rfl (k_s2 hc1).1 dM_outs_19 ?_
    refine lv_iconst (v := (-1)) hx hb dM_outs_20 (by decide) ?_
    refine lv_icmp_eq (tgt := 40) hx hb dM_outs_21 (by decide) (fun hc2 => ?_) (fun hc2 => ?_)
    · refine lv_iconst (v := 2) hx hb dM_outs_40 (by decide) ?_
      refine lv_goto (tgt := 45) hx hb dM_outs_41 (by decide) ?_
      refine va_put (D := g.1) (ci := 1) (v := .int 2) (ty := .int) (C := "HandTablesModel") (T := T_M) (N := 20) hx hb hts (fun w hw => wd_in (u_inM w hw)) tf_M tf_M_ok n_M hown hK hP (mo_D hap) hSS 0 rfl rfl 0 (by decide) (hts _ (wd_in (gw_mem 457 rfl rfl))) (fun _ h => h) rfl (by decide +kernel) rfl rfl (Nat.le_of_ble_eq_true rfl) dM_outs_45 (fun H locs hP _ hSS => ?_)
      have hP : va_P g.1 cl_X (mo_V g 2 ks kc rn oc hd hs se bd (nI b) dk dp ct bo wi sh lf lc mo ah) H := hP
      refine lv_aload_n hx hb dM_outs_48 rfl (lv_at hl 0 rfl) ?_
      refine va_get (D := g.1) (ci := 1) (v := .int 2) (C := "HandTablesModel") (T := T_M) (N := 20) hx hb hts (fun w hw => wd_in (u_inM w hw)) hown hK hP 0 rfl rfl 0 (by decide) (hts _ (wd_in (gw_mem 457 rfl rfl))) (fun _ h => h) rfl dM_outs_49 ?_
      refine lv_if_le (tgt := 57) hx hb dM_outs_52 (by decide) (fun hc3 => ?_) (fun hc3 => ?_)
      · first | exact absurd hc3 (by decide) | exact absurd (by decide) hc3
      refine lv_lconst (v := 0) hx hb dM_outs_55 (by decide) ?_
      exact mm_lret (S := (2, ks, kc, rn, oc, hd, hs, se, bd, (nI b), dk, dp, ct, bo, wi, sh, lf, lc, mo, ah)) hx hb hr hlk dM_outs_56 hP hSS (by exact ⟨by (try simp only [k_outs, if_pos hc1, if_pos hc2]) <;> rfl, rn, oc, hd, hs, mo, ah, by (try simp only [k_outs, if_pos hc1, if_pos hc2]) <;> rfl⟩)
    · refine lv_aload_n hx hb dM_outs_24 rfl (lv_at hl 0 rfl) ?_
      refine va_get (D := g.1) (ci := 1) (v := .int (nI b)) (C := "HandTablesModel") (T := T_M) (N := 20) hx hb hts (fun w hw => wd_in (u_inM w hw)) hown hK hP 0 rfl rfl 9 (by decide) (hts _ (wd_in (gw_mem 466 rfl rfl))) (fun _ h => h) rfl dM_outs_25 ?_
      refine lv_iconst (v := 3) hx hb dM_outs_28 (by decide) ?_
      refine lv_icmp_lt (tgt := 40) hx hb dM_outs_29 (by decide) (fun hc4 => ?_) (fun hc4 => ?_)
      · refine lv_iconst (v := 2) hx hb dM_outs_40 (by decide) ?_
        refine lv_goto (tgt := 45) hx hb dM_outs_41 (by decide) ?_
        refine va_put (D := g.1) (ci := 1) (v := .int 2) (ty := .int) (C := "HandTablesModel") (T := T_M) (N := 20) hx hb hts (fun w hw => wd_in (u_inM w hw)) tf_M tf_M_ok n_M hown hK hP (mo_D hap) hSS 0 rfl rfl 0 (by decide) (hts _ (wd_in (gw_mem 457 rfl rfl))) (fun _ h => h) rfl (by decide +kernel) rfl rfl (Nat.le_of_ble_eq_true rfl) dM_outs_45 (fun H locs hP _ hSS => ?_)
        have hP : va_P g.1 cl_X (mo_V g 2 ks kc rn oc hd hs se bd (nI b) dk dp ct bo wi sh lf lc mo ah) H := hP
        refine lv_aload_n hx hb dM_outs_48 rfl (lv_at hl 0 rfl) ?_
        refine va_get (D := g.1) (ci := 1) (v := .int 2) (C := "HandTablesModel") (T := T_M) (N := 20) hx hb hts (fun w hw => wd_in (u_inM w hw)) hown hK hP 0 rfl rfl 0 (by decide) (hts _ (wd_in (gw_mem 457 rfl rfl))) (fun _ h => h) rfl dM_outs_49 ?_
        refine lv_if_le (tgt := 57) hx hb dM_outs_52 (by decide) (fun hc5 => ?_) (fun hc5 => ?_)
        · first | exact absurd hc5 (by decide) | exact absurd (by decide) hc5
        refine lv_lconst (v := 0) hx hb dM_outs_55 (by decide) ?_
        exact mm_lret (S := (2, ks, kc, rn, oc, hd, hs, se, bd, (nI b), dk, dp, ct, bo, wi, sh, lf, lc, mo, ah)) hx hb hr hlk dM_outs_56 hP hSS (by exact ⟨by (try simp only [k_outs, if_pos hc1, if_neg hc2, if_pos hc4]) <;> rfl, rn, oc, hd, hs, mo, ah, by (try simp only [k_outs, if_pos hc1, if_neg hc2, if_pos hc4]) <;> rfl⟩)
      · refine lv_aload_n hx hb dM_outs_32 rfl (lv_at hl 0 rfl) ?_
        refine va_get (D := g.1) (ci := 1) (v := .int (nI b)) (C := "HandTablesModel") (T := T_M) (N := 20) hx hb hts (fun w hw => wd_in (u_inM w hw)) hown hK hP 0 rfl rfl 9 (by decide) (hts _ (wd_in (gw_mem 466 rfl rfl))) (fun _ h => h) rfl dM_outs_33 ?_
        refine lv_iconst (v := 4) hx hb dM_outs_36 (by decide) ?_
        refine lv_icmp_le (tgt := 44) hx hb dM_outs_37 (by decide) (fun hc6 => ?_) (fun hc6 => ?_)
        · refine lv_iconst (v := 0) hx hb dM_outs_44 (by decide) ?_
          refine va_put (D := g.1) (ci := 1) (v := .int 0) (ty := .int) (C := "HandTablesModel") (T := T_M) (N := 20) hx hb hts (fun w hw => wd_in (u_inM w hw)) tf_M tf_M_ok n_M hown hK hP (mo_D hap) hSS 0 rfl rfl 0 (by decide) (hts _ (wd_in (gw_mem 457 rfl rfl))) (fun _ h => h) rfl (by decide +kernel) rfl rfl (Nat.le_of_ble_eq_true rfl) dM_outs_45 (fun H locs hP _ hSS => ?_)
          have hP : va_P g.1 cl_X (mo_V g 0 ks kc rn oc hd hs se bd (nI b) dk dp ct bo wi sh lf lc mo ah) H := hP
          refine lv_aload_n hx hb dM_outs_48 rfl (lv_at hl 0 rfl) ?_
          refine va_get (D := g.1) (ci := 1) (v := .int 0) (C := "HandTablesModel") (T := T_M) (N := 20) hx hb hts (fun w hw => wd_in (u_inM w hw)) hown hK hP 0 rfl rfl 0 (by decide) (hts _ (wd_in (gw_mem 457 rfl rfl))) (fun _ h => h) rfl dM_outs_49 ?_
          refine lv_if_le (tgt := 57) hx hb dM_outs_52 (by decide) (fun hc7 => ?_) (fun hc7 => ?_)
          rotate_left
          · first | exact absurd hc7 (by decide) | exact absurd (by decide) hc7
          refine lv_lconst (v := 0) hx hb dM_outs_57 (by decide) ?_
          refine jt_topl (fun x8 ex8 => ?_)
          refine lv_lstore_n (lv' := [(2, .long x8), (0, .ref (g.2.2 0)), (1, .int q)]) hx hb dM_outs_58 rfl hl (by decide) rfl (fun ls hl => ?_)
          refine lv_iconst (v := 0) hx hb dM_outs_59 (by decide) ?_
          refine jt_topi (fun x9 ex9 => ?_)
          refine lv_istore (lv' := [(4, .int x9), (2, .long x8), (0, .ref (g.2.2 0)), (1, .int q)]) hx hb dM_outs_60 hl (by decide) rfl (fun ls hl => ?_)
          have hloop : ∀ (n : Nat) (z : Int64)  (wrn10 : Nat → Int32) (woc10 : Nat → Int32) (whd10 : Nat → Int32) (whs10 : Int32) (wmo10 : Int32) (wah10 : Int32) (H : Heap) (locs : List Loc) (ls : Array Slot), lv_has ls 5 [(4, .int (nI (52 - n))), (2, .long z), (1, .int q), (0, .ref (g.2.2 0))] → va_P g.1 cl_X (mo_V g 0 ks kc wrn10 woc10 whd10 whs10 se bd (nI b) dk dp ct bo wi sh lf lc wmo10 wah10) H → va_S (mo_fr g) s.heap H locs → (n ≤ 52) → (∀ (rn' : Nat → Int32) (oc' : Nat → Int32) (hd' : Nat → Int32) (hs' : Int32) (mo' : Int32) (ah' : Int32) (H : Heap) (locs : List Loc) (ls : Array Slot), lv_has ls 5 [(2, .long (ku_lp se bd b q n z))] → va_P g.1 cl_X (mo_V g 0 ks kc rn' oc' hd' hs' se bd (nI b) dk dp ct bo wi sh lf lc mo' ah') H → va_S (mo_fr g) s.heap H locs → W p l e (headSpec (wd yM_outs bM_outs 5 (some .long)) (rmD 6 0 0)).room s m ([.ref (g.2.2 0), .int q]).toArray below meth c H locs 0 0 (MQ below (mm_Q g (fun v9 S9 => v9 = some (.long (if m_noSeat q = 0 then (if se (2 * q).toNatClampNeg = -1 then 0 else if nI b < 3 then 0 else if nI b ≤ 4 then k_outs se bd b q else 0) else 0)) ∧ ∃ (rn' : Nat → Int32) (oc' : Nat → Int32) (hd' : Nat → Int32) (hs' : Int32) (mo' : Int32) (ah' : Int32), S9 = ((if m_noSeat q = 0 then (if se (2 * q).toNatClampNeg = -1 then 2 else if nI b < 3 then 2 else if nI b ≤ 4 then 0 else 2) else 1), ks, kc, rn', oc', hd', hs', se, bd, (nI b), dk, dp, ct, bo, wi, sh, lf, lc, mo', ah'))) ([.ref (g.2.2 0), .int q]).toArray s 0 0 (mo_fr g)) (F0 m 105 ls [])) → W p l e (headSpec (wd yM_outs bM_outs 5 (some .long)) (rmD 6 0 0)).room s m ([.ref (g.2.2 0), .int q]).toArray below meth c H locs 0 0 (MQ below (mm_Q g (fun v9 S9 => v9 = some (.long (if m_noSeat q = 0 then (if se (2 * q).toNatClampNeg = -1 then 0 else if nI b < 3 then 0 else if nI b ≤ 4 then k_outs se bd b q else 0) else 0)) ∧ ∃ (rn' : Nat → Int32) (oc' : Nat → Int32) (hd' : Nat → Int32) (hs' : Int32) (mo' : Int32) (ah' : Int32), S9 = ((if m_noSeat q = 0 then (if se (2 * q).toNatClampNeg = -1 then 2 else if nI b < 3 then 2 else if nI b ≤ 4 then 0 else 2) else 1), ks, kc, rn', oc', hd', hs', se, bd, (nI b), dk, dp, ct, bo, wi, sh, lf, lc, mo', ah'))) ([.ref (g.2.2 0), .int q]).toArray s 0 0 (mo_fr g)) (F0 m 62 ls []) := by
            intro n
            induction n with
            | zero =>
              intro z  wrn10 woc10 whd10 whs10 wmo10 wah10 H locs ls hl hP hSS hn K
              refine lv_iload hx hb dM_outs_62 (lv_at hl 0 rfl) ?_
              refine lv_bipush (v := 52) hx hb dM_outs_64 (by decide) ?_
              refine lv_icmp_ge (tgt := 105) hx hb dM_outs_66 (by decide) (fun hc11 => ?_) (fun hc11 => ?_)
              · have hlB := lv_sub hl [1] rfl
                have hPB := hP
                have hSB := hSS
                simp only [ku_lp] at K
                exact K _ _ _ _ _ _ _ _ _ hlB hPB hSB 
              · exact absurd (by decide) hc11
            | succ n ih =>
              intro z  wrn10 woc10 whd10 whs10 wmo10 wah10 H locs ls hl hP hSS hn K
              refine lv_iload hx hb dM_outs_62 (lv_at hl 0 rfl) ?_
              refine lv_bipush (v := 52) hx hb dM_outs_64 (by decide) ?_
              refine lv_icmp_ge (tgt := 105) hx hb dM_outs_66 (by decide) (fun hc12 => ?_) (fun hc12 => ?_)
              · exact absurd hc12 (nI_ge (b := 52) (by omega) (by decide))
              · refine lv_aload_n hx hb dM_outs_69 rfl (lv_at hl 3 rfl) ?_
                refine lv_iload hx hb dM_outs_70 (lv_at hl 0 rfl) ?_
                refine lv_iconst (v := (-1)) hx hb dM_outs_72 (by decide) ?_
                refine mm_V (cM_stands l g 0 ks kc wrn10 woc10 whd10 whs10 se bd b dk dp ct bo wi sh lf lc wmo10 wah10 (nI (52 - (n + 1))) (-1) hap hb5) rfl kM_M_stands hS hK hP ⟨Nat.le_of_ble_eq_true rfl, Nat.le_of_ble_eq_true rfl⟩ hl.1 rfl (Nat.le_of_ble_eq_true rfl) ⟨Nat.zero_le _, Nat.zero_le _⟩ dM_outs_73 hSS (fun v9 S9 H locs hR hP hSS => ?_)
                obtain ⟨rfl, rfl⟩ := hR
                have hP : va_P g.1 cl_X (mo_V g 0 ks kc wrn10 woc10 whd10 whs10 se bd (nI b) dk dp ct bo wi sh lf lc wmo10 wah10) H := hP
                refine lv_if_ne (tgt := 99) hx hb dM_outs_76 (by decide) (fun hc13 => ?_) (fun hc13 => ?_)
                · refine jv_iinc (a := 1) hx hb dM_outs_99 hl (k := 0) rfl (by decide) (by decide) (fun x14 ex14 ls hl => ?_)
                  have hl : lv_has ls 5 [(4, .int x14), (2, .long z), (1, .int q), (0, .ref (g.2.2 0))] := hl
                  refine lv_goto (tgt := 62) hx hb dM_outs_102 (by decide) ?_
                  rw [nI_up (by omega)] at ex14
                  have hlB := lv_sub hl [0, 1, 2, 3] rfl
                  have hPB := hP
                  have hSB := hSS
                  subst ex14
                  simp only [ku_lp, if_neg hc13] at K
                  exact ih _  _ _ _ _ _ _ _ _ _ hlB hPB hSB (by omega) K
                · refine lv_aload_n hx hb dM_outs_79 rfl (lv_at hl 3 rfl) ?_
                  refine lv_iload hx hb dM_outs_80 (lv_at hl 0 rfl) ?_
                  refine lv_iconst (v := (-1)) hx hb dM_outs_82 (by decide) ?_
                  refine mm_V (cM_leaders l g 0 ks kc wrn10 woc10 whd10 whs10 se bd b dk dp ct bo wi sh lf lc wmo10 wah10 (nI (52 - (n + 1))) (-1) hap hb5 hbd hse (Or.inr (vp_in_nI (by omega) (by decide))) (Or.inl (by decide)) (kq_n1 (k_b4 hb5 hc6))) rfl kM_M_leaders hS hK hP ⟨Nat.le_of_ble_eq_true rfl, Nat.le_of_ble_eq_true rfl⟩ hl.1 rfl (Nat.le_of_ble_eq_true rfl) ⟨Nat.zero_le _, Nat.zero_le _⟩ dM_outs_83 hSS (fun v9 S9 H locs hR hP hSS => ?_)
                  obtain ⟨rfl, rn15, oc16, hd17, hs18, mo19, ah20, rfl⟩ := hR
                  have hP : va_P g.1 cl_X (mo_V g 0 ks kc rn15 oc16 hd17 hs18 se bd (nI b) dk dp ct bo wi sh lf lc mo19 ah20) H := hP
                  refine lv_iconst (v := 1) hx hb dM_outs_86 (by decide) ?_
                  refine lv_iload_n hx hb dM_outs_87 rfl (lv_at hl 2 rfl) ?_
                  refine jv_ishl hx hb dM_outs_88 ?_
                  refine lv_icmp_ne (tgt := 99) hx hb dM_outs_89 (by decide) (fun hc21 => ?_) (fun hc21 => ?_)
                  · refine jv_iinc (a := 1) hx hb dM_outs_99 hl (k := 0) rfl (by decide) (by decide) (fun x22 ex22 ls hl => ?_)
                    have hl : lv_has ls 5 [(4, .int x22), (2, .long z), (1, .int q), (0, .ref (g.2.2 0))] := hl
                    refine lv_goto (tgt := 62) hx hb dM_outs_102 (by decide) ?_
                    rw [nI_up (by omega)] at ex22
                    have hlB := lv_sub hl [0, 1, 2, 3] rfl
                    have hPB := hP
                    have hSB := hSS
                    subst ex22
                    simp only [ku_lp, if_pos hc13, if_neg hc21] at K
                    exact ih _  _ _ _ _ _ _ _ _ _ hlB hPB hSB (by omega) K
                  · refine lv_lload_n hx hb dM_outs_92 rfl (lv_at hl 1 rfl) ?_
                    refine lv_lconst (v := 1) hx hb dM_outs_93 (by decide) ?_
                    refine lv_iload hx hb dM_outs_94 (lv_at hl 0 rfl) ?_
                    refine jv_lshl hx hb dM_outs_96 ?_
                    refine lv_lor hx hb dM_outs_97 ?_
                    refine jt_topl (fun x23 ex23 => ?_)
                    refine lv_lstore_n (lv' := [(2, .long x23), (4, .int (nI (52 - (n + 1)))), (1, .int q), (0, .ref (g.2.2 0))]) hx hb dM_outs_98 rfl hl (by decide) rfl (fun ls hl => ?_)
                    refine jv_iinc (a := 1) hx hb dM_outs_99 hl (k := 1) rfl (by decide) (by decide) (fun x24 ex24 ls hl => ?_)
                    have hl : lv_has ls 5 [(4, .int x24), (2, .long x23), (1, .int q), (0, .ref (g.2.2 0))] := hl
                    refine lv_goto (tgt := 62) hx hb dM_outs_102 (by decide) ?_
                    rw [nI_up (by omega)] at ex24
                    have hlB := lv_sub hl [0, 1, 2, 3] rfl
                    have hPB := hP
                    have hSB := hSS
                    subst ex24 ex23
                    simp only [ku_lp, if_pos hc13, if_pos hc21] at K
                    exact ih _  _ _ _ _ _ _ _ _ _ hlB hPB hSB (by omega) K
          refine hloop 52 x8  rn oc hd hs mo ah _ _ ls (by have h9 := lv_sub hl [0, 1, 3, 2] rfl; subst ex9; exact h9) hP hSS (by decide) (fun rn25 oc26 hd27 hs28 mo29 ah30 H locs ls hl hP hSS  => ?_)
          clear hloop
          obtain ⟨y31, ey31⟩ : ∃ z, (ku_lp se bd b q 52 x8) = z := ⟨_, rfl⟩
          rw [ey31] at hl
          refine lv_lload_n hx hb dM_outs_105 rfl (lv_at hl 0 rfl) ?_
          exact mm_lret (S := (0, ks, kc, rn25, oc26, hd27, hs28, se, bd, (nI b), dk, dp, ct, bo, wi, sh, lf, lc, mo29, ah30)) hx hb hr hlk dM_outs_106 hP hSS (by exact ⟨by subst ey31 ex9 ex8; (try simp only [k_outs, if_pos hc1, if_neg hc2, if_neg hc4, if_pos hc6]) <;> rfl, rn25, oc26, hd27, hs28, mo29, ah30, by subst ey31 ex9 ex8; (try simp only [k_outs, if_pos hc1, if_neg hc2, if_neg hc4, if_pos hc6]) <;> rfl⟩)
        · refine lv_iconst (v := 2) hx hb dM_outs_40 (by decide) ?_
          refine lv_goto (tgt := 45) hx hb dM_outs_41 (by decide) ?_
          refine va_put (D := g.1) (ci := 1) (v := .int 2) (ty := .int) (C := "HandTablesModel") (T := T_M) (N := 20) hx hb hts (fun w hw => wd_in (u_inM w hw)) tf_M tf_M_ok n_M hown hK hP (mo_D hap) hSS 0 rfl rfl 0 (by decide) (hts _ (wd_in (gw_mem 457 rfl rfl))) (fun _ h => h) rfl (by decide +kernel) rfl rfl (Nat.le_of_ble_eq_true rfl) dM_outs_45 (fun H locs hP _ hSS => ?_)
          have hP : va_P g.1 cl_X (mo_V g 2 ks kc rn oc hd hs se bd (nI b) dk dp ct bo wi sh lf lc mo ah) H := hP
          refine lv_aload_n hx hb dM_outs_48 rfl (lv_at hl 0 rfl) ?_
          refine va_get (D := g.1) (ci := 1) (v := .int 2) (C := "HandTablesModel") (T := T_M) (N := 20) hx hb hts (fun w hw => wd_in (u_inM w hw)) hown hK hP 0 rfl rfl 0 (by decide) (hts _ (wd_in (gw_mem 457 rfl rfl))) (fun _ h => h) rfl dM_outs_49 ?_
          refine lv_if_le (tgt := 57) hx hb dM_outs_52 (by decide) (fun hc32 => ?_) (fun hc32 => ?_)
          · first | exact absurd hc32 (by decide) | exact absurd (by decide) hc32
          refine lv_lconst (v := 0) hx hb dM_outs_55 (by decide) ?_
          exact mm_lret (S := (2, ks, kc, rn, oc, hd, hs, se, bd, (nI b), dk, dp, ct, bo, wi, sh, lf, lc, mo, ah)) hx hb hr hlk dM_outs_56 hP hSS (by exact ⟨by (try simp only [k_outs, if_pos hc1, if_neg hc2, if_neg hc4, if_neg hc6]) <;> rfl, rn, oc, hd, hs, mo, ah, by (try simp only [k_outs, if_pos hc1, if_neg hc2, if_neg hc4, if_neg hc6]) <;> rfl⟩)
  · refine lv_iconst (v := 1) hx hb dM_outs_8 (by decide) ?_
    refine lv_goto (tgt := 45) hx hb dM_outs_9 (by decide) ?_
    refine va_put (D := g.1) (ci := 1) (v := .int 1) (ty := .int) (C := "HandTablesModel") (T := T_M) (N := 20) hx hb hts (fun w hw => wd_in (u_inM w hw)) tf_M tf_M_ok n_M hown hK hP (mo_D hap) hSS 0 rfl rfl 0 (by decide) (hts _ (wd_in (gw_mem 457 rfl rfl))) (fun _ h => h) rfl (by decide +kernel) rfl rfl (Nat.le_of_ble_eq_true rfl) dM_outs_45 (fun H locs hP _ hSS => ?_)
    have hP : va_P g.1 cl_X (mo_V g 1 ks kc rn oc hd hs se bd (nI b) dk dp ct bo wi sh lf lc mo ah) H := hP
    refine lv_aload_n hx hb dM_outs_48 rfl (lv_at hl 0 rfl) ?_
    refine va_get (D := g.1) (ci := 1) (v := .int 1) (C := "HandTablesModel") (T := T_M) (N := 20) hx hb hts (fun w hw => wd_in (u_inM w hw)) hown hK hP 0 rfl rfl 0 (by decide) (hts _ (wd_in (gw_mem 457 rfl rfl))) (fun _ h => h) rfl dM_outs_49 ?_
    refine lv_if_le (tgt := 57) hx hb dM_outs_52 (by decide) (fun hc33 => ?_) (fun hc33 => ?_)
    · first | exact absurd hc33 (by decide) | exact absurd (by decide) hc33
    refine lv_lconst (v := 0) hx hb dM_outs_55 (by decide) ?_
    exact mm_lret (S := (1, ks, kc, rn, oc, hd, hs, se, bd, (nI b), dk, dp, ct, bo, wi, sh, lf, lc, mo, ah)) hx hb hr hlk dM_outs_56 hP hSS (by exact ⟨by (try simp only [k_outs, if_neg hc1]) <;> rfl, rn, oc, hd, hs, mo, ah, by (try simp only [k_outs, if_neg hc1]) <;> rfl⟩)
