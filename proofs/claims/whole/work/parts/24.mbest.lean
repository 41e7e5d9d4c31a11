/-! the model: the best key of a hand -/
def k_ag (n : Nat) (f f' : Nat → Int32) : Prop := ∀ i, i < n → f i = f' i
theorem k_agu {n i : Nat} {f f' : Nat → Int32} {x x' : Int32} (h : k_ag n f f') (hx : i < n → x = x') : k_ag n (upd f i x) (upd f' i x') := by
  intro j hj
  by_cases e : j = i
  · subst e
    rw [pk_us, pk_us, hx hj]
  · rw [pk_un e, pk_un e]
    exact h j hj
theorem k_srlt {n j : Nat} (hn : n ≤ 9) : (k_sr (nI (n + 1 + 2)) (nI (5 - (j + 1)))).toNatClampNeg < 13 := by
  unfold k_sr
  split
  · rename_i h
    obtain ⟨i, h1, h2⟩ := vp_in_of (k_srin (by omega) (by omega) h) (by decide)
    rw [h2, nI_clamp (by omega)]
    exact h1
  · decide
theorem ks_in_ag {f f' : Nat → Int32} (h : k_ag 13 f f') {k : Nat} (hk : k ≤ 9) : ∀ (n : Nat) (a : Int32), ks_in f (nI (k + 1 + 2)) n a = ks_in f' (nI (k + 1 + 2)) n a
  | 0, a => rfl
  | n + 1, a => by
    unfold ks_in
    rw [h _ (k_srlt hk)]
    exact ks_in_ag h hk n _
theorem ks_out_ag {f f' : Nat → Int32} (h : k_ag 13 f f') : ∀ n, n ≤ 10 → ks_out f n = ks_out f' n
  | 0, _ => rfl
  | n + 1, hn => by
    unfold ks_out
    rw [ks_in_ag h (by omega), ks_out_ag h n (by omega)]
theorem kw_lp_ag {f f' : Nat → Int32} (h : k_ag 13 f f') (t : Int32) : ∀ (n : Nat) (a : Int32), kw_lp f t n a = kw_lp f' t n a
  | 0, a => rfl
  | n + 1, a => by
    unfold kw_lp
    rw [h _ (by rw [nI_clamp (by omega)]; omega)]
    exact kw_lp_ag h t n _
theorem kr_in_ag {f f' : Nat → Int32} (h : k_ag 13 f f') (t : Int32) : ∀ (n : Nat) (a b : Int32), n ≤ 13 → kr_in f t n a b = kr_in f' t n a b
  | 0, a, b, _ => rfl
  | n + 1, a, b, hn => by
    unfold kr_in
    rw [h _ (by rw [nI_clamp (by omega)]; omega), kr_in_ag h t n _ _ (by omega), kr_in_ag h t n _ _ (by omega)]
theorem kr_out_ag {f f' : Nat → Int32} (h : k_ag 13 f f') : ∀ (n : Nat) (a b : Int32), kr_out f n a b = kr_out f' n a b
  | 0, a, b => rfl
  | n + 1, a, b => by
    unfold kr_out
    rw [kr_in_ag h _ 13 _ _ (by omega)]
    exact kr_out_ag h n _ _
theorem k_key_ag {f f' : Nat → Int32} (h : k_ag 13 f f') (u : Int32) : k_key f u = k_key f' u := by
  have h1 : k_str f = k_str f' := ks_out_ag h 10 (by omega)
  have h2 : ∀ t, k_with f t = k_with f' t := fun t => kw_lp_ag h t 13 0
  have h3 : k_row f = k_row f' := congrArg Prod.fst (kr_out_ag h 4 0 28561)
  unfold k_key k_cat
  rw [h1, h2 4, h2 3, h2 2, h3]
theorem kc_lp_ag {r r' : Nat → Int32} (hr : k_ag 5 r r') : ∀ (n : Nat) (f f' : Nat → Int32), k_ag 13 f f' → k_ag 13 (kc_lp r n f) (kc_lp r' n f')
  | 0, f, f', h => h
  | n + 1, f, f', h => by
    unfold kc_lp
    rw [hr _ (by rw [nI_clamp (by omega)]; omega)]
    exact kc_lp_ag hr n _ _ (k_agu h (fun hi => by rw [h _ hi]))
theorem kz_lp_ag : ∀ (n : Nat) (f : Nat → Int32), n ≤ 13 → (∀ i, i < 13 - n → f i = 0) → k_ag 13 (kz_lp n f) (fun _ => 0)
  | 0, f, _, h => fun i hi => h i hi
  | n + 1, f, hn, h => by
    unfold kz_lp
    refine kz_lp_ag n _ (by omega) (fun i hi => ?_)
    rw [nI_clamp (by omega)]
    by_cases e : i = 13 - (n + 1)
    · subst e; exact pk_us
    · rw [pk_un e]; exact h i (by omega)
theorem k_key_z (r f : Nat → Int32) (u : Int32) : k_key (kc_lp r 5 (kz_lp 13 f)) u = k_key (k_oc r) u :=
  k_key_ag (kc_lp_ag (fun _ _ => rfl) 5 _ _ (kz_lp_ag 13 f (by omega) (fun i hi => absurd hi (by omega)))) u
theorem k_key_r {r r' : Nat → Int32} (h : k_ag 5 r r') (u : Int32) : k_key (k_oc r) u = k_key (k_oc r') u := k_key_ag (kc_lp_ag h 5 _ _ (fun _ _ => rfl)) u
/-- the key of five of the hand's cards, by the bits of k; -1 where they aren't five -/
def ko_lp (h : Nat → Int32) (b : Nat) (k : Int32) : Nat → Int32 → Int32 → Int32 → (Nat → Int32) → Int32
  | 0, a, u, _, r => if a = 5 then k_key (k_oc r) u else -1
  | n + 1, a, u, t, r => if jri k (nI (b - (n + 1))) &&& 1 = 1 then (if a = 5 then -1 else ko_lp h b k n (a + 1) (if u = 0 then 0 else if t < 0 then 1 else if jrem (h (nI (b - (n + 1))).toNatClampNeg) 4 = t then 1 else 0) (jrem (h (nI (b - (n + 1))).toNatClampNeg) 4) (upd r a.toNatClampNeg (h (nI (b - (n + 1))).toNatClampNeg / 4))) else ko_lp h b k n a u t r
theorem ko_ag (h : Nat → Int32) (b : Nat) (k : Int32) : ∀ (n q : Nat) (u t : Int32) (r r' : Nat → Int32), q ≤ 5 → k_ag q r r' → ko_lp h b k n (nI q) u t r = ko_lp h b k n (nI q) u t r'
  | 0, q, u, t, r, r', hq, hr => by
    unfold ko_lp
    by_cases e : nI q = 5
    · rw [if_pos e, if_pos e]
      have e : q = 5 := (nI_eq (by omega) (by omega)).mp e
      subst e
      exact k_key_r hr u
    · rw [if_neg e, if_neg e]
  | n + 1, q, u, t, r, r', hq, hr => by
    unfold ko_lp
    split
    · split
      · rfl
      · rename_i h5
        have h6 : q ≠ 5 := fun z => h5 (by rw [z]; rfl)
        rw [nI_1, nI_clamp (n := q) (by omega)]
        refine ko_ag h b k n (q + 1) _ _ _ _ (by omega) (fun i hi => ?_)
        by_cases e : i = q
        · subst e; rw [pk_us, pk_us]
        · rw [pk_un e, pk_un e]; exact hr i (by omega)
    · exact ko_ag h b k n q u t r r' hq hr
def k_some (h : Nat → Int32) (b : Nat) (k : Int32) : Int32 := ko_lp h b k b 0 1 (-1) (fun _ => 0)
theorem k_some_any (h : Nat → Int32) (b : Nat) (k : Int32) (r : Nat → Int32) : k_some h b k = ko_lp h b k b 0 1 (-1) r := ko_ag h b k b 0 1 (-1) _ r (by omega) (fun i hi => absurd hi (by omega))
theorem k_d4 {x : Int32} (h : vp_in x 52) : vp_in (x / 4) 13 := by
  obtain ⟨j, h1, h2⟩ := vp_in_of h (by decide)
  rw [h2, show nI j / 4 = nI (j / 4) from pk_div (d := 4) (by omega) (by omega) (by omega)]
  exact vp_in_nI (by omega) (by decide)
theorem k_pow : ∀ b, b < 8 → jli 1 (nI b) = nI (2 ^ b) := by decide +kernel
theorem k_pow_le : ∀ b, b < 8 → 2 ^ b ≤ 128 := by decide +kernel
def km_lp (h : Nat → Int32) (b : Nat) : Nat → Int32 → Int32
  | 0, a => a
  | n + 1, a => km_lp h b n (if k_some h b (nI (2 ^ b - (n + 1))) ≤ a then a else k_some h b (nI (2 ^ b - (n + 1))))
/-- the greatest key of five of the hand's b cards -/
def k_best (h : Nat → Int32) (b : Nat) : Int32 := km_lp h b (2 ^ b) (-1)
theorem cM_keyOf (l : Launch) (g : mo_E) (th : Int32) (ks : Nat → Int32) (kc : Int32) (rn : Nat → Int32) (oc : Nat → Int32) (hd : Nat → Int32) (hs : Int32) (se : Nat → Int32) (bd : Nat → Int32) (bs : Int32) (dk : Nat → Int32) (dp : Int32) (ct : Int32) (bo : Int32) (wi : Nat → Int32) (sh : Nat → Int32) (lf : Nat → Int32) (lc : Int32) (mo : Int32) (ah : Int32) (u : Int32) (hap : mo_ap g) (hrn : ∀ i, i < 5 → vp_in (rn i) 13) : mm_M l yM_keyOf bM_keyOf 8 (some .int) 1 [.ref (g.2.2 0), .int u] g (th, ks, kc, rn, oc, hd, hs, se, bd, bs, dk, dp, ct, bo, wi, sh, lf, lc, mo, ah) (fun v9 S9 => v9 = some (.int (k_key (k_oc rn) u)) ∧ ∃ (oc' : Nat → Int32), S9 = (th, ks, kc, rn, oc', hd, hs, se, bd, bs, dk, dp, ct, bo, wi, sh, lf, lc, mo, ah)) :=
  mm_imp (cM_keyOf0 l g th ks kc rn oc hd hs se bd bs dk dp ct bo wi sh lf lc mo ah u hap hrn) (fun v S h => by
    obtain ⟨h1, f, h2⟩ := h
    exact ⟨by rw [h1, k_key_z], f, h2⟩)
theorem kq_lt {q : Nat} {a : Int32} (h1 : q ≤ 5) (h2 : a = nI q) (h5 : ¬ a = 5) : q + 1 ≤ 5 := by
  have : q ≠ 5 := fun z => h5 (by rw [h2, z]; rfl)
  omega
theorem kq_up {q : Nat} {a x : Int32} {r : Nat → Int32} (h2 : a = nI q) (h1 : q ≤ 5) (h5 : ¬ a = 5) (h3 : ∀ i, i < q → vp_in (r i) 13) (hx : vp_in x 13) : ∀ i, i < q + 1 → vp_in (upd r a.toNatClampNeg x i) 13 := by
  intro i hi
  rw [h2, nI_clamp (by omega)]
  by_cases e : i = q
  · subst e; rw [pk_us]; exact hx
  · rw [pk_un e]; exact h3 i (by omega)
theorem kq_all {q : Nat} {a : Int32} {r : Nat → Int32} (h2 : a = nI q) (h1 : q ≤ 5) (h5 : a = 5) (h3 : ∀ i, i < q → vp_in (r i) 13) : ∀ i, i < 5 → vp_in (r i) 13 := by
  rw [h2] at h5
  have e : q = 5 := (nI_eq (by omega) (by omega)).mp h5
  subst e
  exact h3
set_option maxHeartbeats 4000000 in
set_option maxRecDepth 100000 in
theorem cM_keyOfSome (l : Launch) (g : mo_E) (th : Int32) (ks : Nat → Int32) (kc : Int32) (rn : Nat → Int32) (oc : Nat → Int32) (hd : Nat → Int32) (b : Nat) (se : Nat → Int32) (bd : Nat → Int32) (bs : Int32) (dk : Nat → Int32) (dp : Int32) (ct : Int32) (bo : Int32) (wi : Nat → Int32) (sh : Nat → Int32) (lf : Nat → Int32) (lc : Int32) (mo : Int32) (ah : Int32) (k : Int32)  (hap : mo_ap g) (hb7 : b ≤ 7) (hh : ∀ i, i < b → vp_in (hd i) 52) : mm_M l yM_keyOfSome bM_keyOfSome 6 (some .int) 2 [.ref (g.2.2 0), .int k] g (th, ks, kc, rn, oc, hd, (nI b), se, bd, bs, dk, dp, ct, bo, wi, sh, lf, lc, mo, ah) (fun v9 S9 => v9 = some (.int (k_some hd b k)) ∧ ∃ (rn' : Nat → Int32) (oc' : Nat → Int32), S9 = (th, ks, kc, rn', oc', hd, (nI b), se, bd, bs, dk, dp, ct, bo, wi, sh, lf, lc, mo, ah)) := by
  refine Met.ofW (cc := bM_keyOfSome) (maxL := 6) (ret := (some .int)) (by decide) rfl ?_
  intro p e s m args below meth c s₁ BB hml hv
  obtain ⟨rfl, hB⟩ := hv
  have hx := BB.exec
  have hb := BB.bytes
  have hr := BB.returns
  have hlk := BB.notSynchronized
  have hts := atoms_spec (ws := wd yM_keyOfSome bM_keyOfSome 6 (some .int)) BB.pre
  have hown : s.vm.findClass "HandTablesModel" = some m.cls := findClass_of_methodNamed BB.named
  have hS : CallFix p m c bM_keyOfSome 6 s _ (wd yM_keyOfSome bM_keyOfSome 6 (some .int)) "HandTablesModel" := ⟨hx, hb, hml, hown, hts⟩
  obtain ⟨hP, hK⟩ := hB
  have hP : va_P g.1 cl_X (mo_V g th ks kc rn oc hd (nI b) se bd bs dk dp ct bo wi sh lf lc mo ah) s.heap := hP
  have hSS : va_S (mo_fr g) s.heap s.heap [] := va_S.rf
  have hl := lv_entry ([.ref (g.2.2 0), .int k]) (n := 6) (Nat.le_of_ble_eq_true rfl)
  rw [lg_entry_eq]
  generalize (lg_sl ([.ref (g.2.2 0), .int k]) ++ List.replicate (6 - (lg_sl ([.ref (g.2.2 0), .int k])).length) Slot.unset).toArray = ls at hl ⊢
  have hl : lv_has ls 6 [(0, .ref (g.2.2 0)), (1, .int k)] := hl
  obtain ⟨H, eH⟩ : ∃ H, s.heap = H := ⟨_, rfl⟩
  obtain ⟨locs, eL⟩ : ∃ L, ([] : List Loc) = L := ⟨_, rfl⟩
  have hP : va_P g.1 cl_X (mo_V g th ks kc rn oc hd (nI b) se bd bs dk dp ct bo wi sh lf lc mo ah) H := by rw [← eH]; exact hP
  have hSS : va_S (mo_fr g) s.heap H locs := by rw [← eH, ← eL]; exact hSS
  refine mm_go eH eL ?_
  clear eH eL
  refine lv_iconst (v := 0) hx hb dM_keyOfSome_0 (by decide) ?_
  refine jt_topi (fun x1 ex1 => ?_)
  refine lv_istore_n (lv' := [(2, .int x1), (0, .ref (g.2.2 0)), (1, .int k)]) hx hb dM_keyOfSome_1 rfl hl (by decide) rfl (fun ls hl => ?_)
  refine lv_iconst (v := 1) hx hb dM_keyOfSome_2 (by decide) ?_
  refine jt_topi (fun x2 ex2 => ?_)
  refine lv_istore_n (lv' := [(3, .int x2), (2, .int x1), (0, .ref (g.2.2 0)), (1, .int k)]) hx hb dM_keyOfSome_3 rfl hl (by decide) rfl (fun ls hl => ?_)
  refine lv_iconst (v := (-1)) hx hb dM_keyOfSome_4 (by decide) ?_
  refine jt_topi (fun x3 ex3 => ?_)
  refine lv_istore (lv' := [(4, .int x3), (3, .int x2), (2, .int x1), (0, .ref (g.2.2 0)), (1, .int k)]) hx hb dM_keyOfSome_5 hl (by decide) rfl (fun ls hl => ?_)
  refine lv_iconst (v := 0) hx hb dM_keyOfSome_7 (by decide) ?_
  refine jt_topi (fun x4 ex4 => ?_)
  refine lv_istore (lv' := [(5, .int x4), (4, .int x3), (3, .int x2), (2, .int x1), (0, .ref (g.2.2 0)), (1, .int k)]) hx hb dM_keyOfSome_8 hl (by decide) rfl (fun ls hl => ?_)
  have hloop : ∀ (n : Nat) (a : Int32) (u : Int32) (t : Int32)  (wrn5 : Nat → Int32) (H : Heap) (locs : List Loc) (ls : Array Slot), lv_has ls 6 [(5, .int (nI (b - n))), (2, .int a), (3, .int u), (4, .int t), (1, .int k), (0, .ref (g.2.2 0))] → va_P g.1 cl_X (mo_V g th ks kc wrn5 oc hd (nI b) se bd bs dk dp ct bo wi sh lf lc mo ah) H → va_S (mo_fr g) s.heap H locs → (n ≤ b) → (∃ q, q ≤ 5 ∧ a = nI q ∧ ∀ i, i < q → vp_in (wrn5 i) 13) → (k_some hd b k = ko_lp hd b k n a u t wrn5) → W p l e (headSpec (wd yM_keyOfSome bM_keyOfSome 6 (some .int)) (rmD 2 0 0)).room s m ([.ref (g.2.2 0), .int k]).toArray below meth c H locs 0 0 (MQ below (mm_Q g (fun v9 S9 => v9 = some (.int (k_some hd b k)) ∧ ∃ (rn' : Nat → Int32) (oc' : Nat → Int32), S9 = (th, ks, kc, rn', oc', hd, (nI b), se, bd, bs, dk, dp, ct, bo, wi, sh, lf, lc, mo, ah))) ([.ref (g.2.2 0), .int k]).toArray s 0 0 (mo_fr g)) (F0 m 10 ls []) := by
    intro n
    induction n with
    | zero =>
      intro a u t  wrn5 H locs ls hl hP hSS hn hq hF
      obtain ⟨q, hq1, hq2, hq3⟩ := hq
      refine lv_iload hx hb dM_keyOfSome_10 (lv_at hl 0 rfl) ?_
      refine lv_aload_n hx hb dM_keyOfSome_12 rfl (lv_at hl 5 rfl) ?_
      refine va_get (D := g.1) (ci := 1) (v := .int (nI b)) (C := "HandTablesModel") (T := T_M) (N := 20) hx hb hts (fun w hw => wd_in (u_inM w hw)) hown hK hP 0 rfl rfl 6 (by decide) (hts _ (wd_in (gw_mem 463 rfl rfl))) (fun _ h => h) rfl dM_keyOfSome_13 ?_
      refine lv_icmp_ge (tgt := 100) hx hb dM_keyOfSome_16 (by decide) (fun hc6 => ?_) (fun hc6 => ?_)
      · refine lv_iload_n hx hb dM_keyOfSome_100 rfl (lv_at hl 1 rfl) ?_
        refine lv_iconst (v := 5) hx hb dM_keyOfSome_101 (by decide) ?_
        refine lv_icmp_ne (tgt := 113) hx hb dM_keyOfSome_102 (by decide) (fun hc7 => ?_) (fun hc7 => ?_)
        · refine lv_iconst (v := (-1)) hx hb dM_keyOfSome_113 (by decide) ?_
          exact mm_iret (S := (th, ks, kc, wrn5, oc, hd, (nI b), se, bd, bs, dk, dp, ct, bo, wi, sh, lf, lc, mo, ah)) hx hb hr hlk dM_keyOfSome_114 hP hSS (by subst ex4 ex3 ex2 ex1; exact ⟨by rw [hF]; simp only [ko_lp, if_neg hc7], _, _, rfl⟩)
        · refine lv_aload_n hx hb dM_keyOfSome_105 rfl (lv_at hl 5 rfl) ?_
          refine lv_iload_n hx hb dM_keyOfSome_106 rfl (lv_at hl 2 rfl) ?_
          refine mm_V (cM_keyOf l g th ks kc wrn5 oc hd (nI b) se bd bs dk dp ct bo wi sh lf lc mo ah u hap (kq_all hq2 hq1 hc7 hq3)) rfl kM_M_keyOf hS hK hP ⟨Nat.le_of_ble_eq_true rfl, Nat.le_of_ble_eq_true rfl⟩ hl.1 rfl (Nat.le_of_ble_eq_true rfl) ⟨Nat.zero_le _, Nat.zero_le _⟩ dM_keyOfSome_107 hSS (fun v9 S9 H locs hR hP hSS => ?_)
          obtain ⟨rfl, oc8, rfl⟩ := hR
          have hP : va_P g.1 cl_X (mo_V g th ks kc wrn5 oc8 hd (nI b) se bd bs dk dp ct bo wi sh lf lc mo ah) H := hP
          refine lv_goto (tgt := 114) hx hb dM_keyOfSome_110 (by decide) ?_
          exact mm_iret (S := (th, ks, kc, wrn5, oc8, hd, (nI b), se, bd, bs, dk, dp, ct, bo, wi, sh, lf, lc, mo, ah)) hx hb hr hlk dM_keyOfSome_114 hP hSS (by subst ex4 ex3 ex2 ex1; exact ⟨by rw [hF]; simp only [ko_lp, if_pos hc7], _, _, rfl⟩)
      · exact absurd (show nI b ≤ nI (b - 0) from Int32.le_refl _) hc6
    | succ n ih =>
      intro a u t  wrn5 H locs ls hl hP hSS hn hq hF
      obtain ⟨q, hq1, hq2, hq3⟩ := hq
      refine lv_iload hx hb dM_keyOfSome_10 (lv_at hl 0 rfl) ?_
      refine lv_aload_n hx hb dM_keyOfSome_12 rfl (lv_at hl 5 rfl) ?_
      refine va_get (D := g.1) (ci := 1) (v := .int (nI b)) (C := "HandTablesModel") (T := T_M) (N := 20) hx hb hts (fun w hw => wd_in (u_inM w hw)) hown hK hP 0 rfl rfl 6 (by decide) (hts _ (wd_in (gw_mem 463 rfl rfl))) (fun _ h => h) rfl dM_keyOfSome_13 ?_
      refine lv_icmp_ge (tgt := 100) hx hb dM_keyOfSome_16 (by decide) (fun hc9 => ?_) (fun hc9 => ?_)
      · exact absurd hc9 (nI_ge (by omega) (by omega))
      · refine lv_iload_n hx hb dM_keyOfSome_19 rfl (lv_at hl 4 rfl) ?_
        refine lv_iload hx hb dM_keyOfSome_20 (lv_at hl 0 rfl) ?_
        refine jv_ishr hx hb dM_keyOfSome_22 ?_
        refine lv_iconst (v := 1) hx hb dM_keyOfSome_23 (by decide) ?_
        refine lv_iand hx hb dM_keyOfSome_24 ?_
        refine lv_iconst (v := 1) hx hb dM_keyOfSome_25 (by decide) ?_
        refine lv_icmp_ne (tgt := 94) hx hb dM_keyOfSome_26 (by decide) (fun hc10 => ?_) (fun hc10 => ?_)
        · refine jv_iinc (a := 1) hx hb dM_keyOfSome_94 hl (k := 0) rfl (by decide) (by decide) (fun x11 ex11 ls hl => ?_)
          have hl : lv_has ls 6 [(5, .int x11), (2, .int a), (3, .int u), (4, .int t), (1, .int k), (0, .ref (g.2.2 0))] := hl
          refine lv_goto (tgt := 10) hx hb dM_keyOfSome_97 (by decide) ?_
          rw [nI_up (by omega)] at ex11
          have hlB := lv_sub hl [0, 1, 2, 3, 4, 5] rfl
          have hPB := hP
          have hSB := hSS
          subst ex11
          exact ih _ _ _  _ _ _ _ hlB hPB hSB (by omega) ⟨q, hq1, hq2, hq3⟩ (by rw [hF]; simp only [ko_lp, if_neg hc10])
        · refine lv_iload_n hx hb dM_keyOfSome_29 rfl (lv_at hl 1 rfl) ?_
          refine lv_iconst (v := 5) hx hb dM_keyOfSome_30 (by decide) ?_
          refine lv_icmp_ne (tgt := 36) hx hb dM_keyOfSome_31 (by decide) (fun hc12 => ?_) (fun hc12 => ?_)
          · refine lv_aload_n hx hb dM_keyOfSome_36 rfl (lv_at hl 5 rfl) ?_
            refine va_get (D := g.1) (ci := 1) (v := .ref (g.2.2 2)) (C := "HandTablesModel") (T := T_M) (N := 20) hx hb hts (fun w hw => wd_in (u_inM w hw)) hown hK hP 0 rfl rfl 3 (by decide) (hts _ (wd_in (gw_mem 460 rfl rfl))) (fun _ h => h) rfl dM_keyOfSome_37 ?_
            refine lv_iload_n hx hb dM_keyOfSome_40 rfl (lv_at hl 1 rfl) ?_
            refine lv_aload_n hx hb dM_keyOfSome_41 rfl (lv_at hl 5 rfl) ?_
            refine va_get (D := g.1) (ci := 1) (v := .ref (g.2.2 4)) (C := "HandTablesModel") (T := T_M) (N := 20) hx hb hts (fun w hw => wd_in (u_inM w hw)) hown hK hP 0 rfl rfl 5 (by decide) (hts _ (wd_in (gw_mem 462 rfl rfl))) (fun _ h => h) rfl dM_keyOfSome_42 ?_
            refine lv_iload hx hb dM_keyOfSome_45 (lv_at hl 0 rfl) ?_
            refine va_iald hx hb hK hP 4 0 rfl rfl (vp_in_nI (by omega) (by omega)) dM_keyOfSome_47 ?_
            refine lv_iconst (v := 4) hx hb dM_keyOfSome_48 (by decide) ?_
            refine lv_idiv hx hb dM_keyOfSome_49 (by decide) ?_
            refine va_iast (x := ((hd ((nI (b - (n + 1))) : Int32).toNatClampNeg) / 4)) hx hb hK hP (mo_D hap) hSS 2 0 rfl rfl (by rw [hq2]; exact vp_in_nI (kq_lt hq1 hq2 hc12) (by decide)) dM_keyOfSome_50 (fun H locs hP _ hSS => ?_)
            have hP : va_P g.1 cl_X (mo_V g th ks kc (upd wrn5 (a : Int32).toNatClampNeg ((hd ((nI (b - (n + 1))) : Int32).toNatClampNeg) / 4)) oc hd (nI b) se bd bs dk dp ct bo wi sh lf lc mo ah) H := hP
            refine lv_iload_n hx hb dM_keyOfSome_51 rfl (lv_at hl 2 rfl) ?_
            refine lv_if_eq (tgt := 78) hx hb dM_keyOfSome_52 (by decide) (fun hc13 => ?_) (fun hc13 => ?_)
            · refine lv_iconst (v := 0) hx hb dM_keyOfSome_78 (by decide) ?_
              refine jt_topi (fun x14 ex14 => ?_)
              refine lv_istore_n (lv' := [(3, .int x14), (5, .int (nI (b - (n + 1)))), (2, .int a), (4, .int t), (1, .int k), (0, .ref (g.2.2 0))]) hx hb dM_keyOfSome_79 rfl hl (by decide) rfl (fun ls hl => ?_)
              refine lv_aload_n hx hb dM_keyOfSome_80 rfl (lv_at hl 5 rfl) ?_
              refine va_get (D := g.1) (ci := 1) (v := .ref (g.2.2 4)) (C := "HandTablesModel") (T := T_M) (N := 20) hx hb hts (fun w hw => wd_in (u_inM w hw)) hown hK hP 0 rfl rfl 5 (by decide) (hts _ (wd_in (gw_mem 462 rfl rfl))) (fun _ h => h) rfl dM_keyOfSome_81 ?_
              refine lv_iload hx hb dM_keyOfSome_84 (lv_at hl 1 rfl) ?_
              refine va_iald hx hb hK hP 4 0 rfl rfl (vp_in_nI (by omega) (by omega)) dM_keyOfSome_86 ?_
              refine lv_iconst (v := 4) hx hb dM_keyOfSome_87 (by decide) ?_
              refine jv_irem hx hb dM_keyOfSome_88 (by decide) ?_
              refine jt_topi (fun x15 ex15 => ?_)
              refine lv_istore (lv' := [(4, .int x15), (3, .int x14), (5, .int (nI (b - (n + 1)))), (2, .int a), (1, .int k), (0, .ref (g.2.2 0))]) hx hb dM_keyOfSome_89 hl (by decide) rfl (fun ls hl => ?_)
              refine jv_iinc (a := 1) hx hb dM_keyOfSome_91 hl (k := 3) rfl (by decide) (by decide) (fun x16 ex16 ls hl => ?_)
              have hl : lv_has ls 6 [(2, .int x16), (4, .int x15), (3, .int x14), (5, .int (nI (b - (n + 1)))), (1, .int k), (0, .ref (g.2.2 0))] := hl
              refine jv_iinc (a := 1) hx hb dM_keyOfSome_94 hl (k := 3) rfl (by decide) (by decide) (fun x17 ex17 ls hl => ?_)
              have hl : lv_has ls 6 [(5, .int x17), (2, .int x16), (4, .int x15), (3, .int x14), (1, .int k), (0, .ref (g.2.2 0))] := hl
              refine lv_goto (tgt := 10) hx hb dM_keyOfSome_97 (by decide) ?_
              rw [nI_up (by omega)] at ex17
              have hlB := lv_sub hl [0, 1, 3, 2, 4, 5] rfl
              have hPB := hP
              have hSB := hSS
              subst ex17 ex16 ex15 ex14
              exact ih _ _ _  _ _ _ _ hlB hPB hSB (by omega) ⟨q + 1, kq_lt hq1 hq2 hc12, by rw [hq2, nI_1], kq_up hq2 hq1 hc12 hq3 (k_d4 (by rw [nI_clamp (by omega)]; exact hh _ (by omega)))⟩ (by rw [hF]; simp only [ko_lp, if_pos hc10, if_neg hc12, if_pos hc13])
            · refine lv_iload hx hb dM_keyOfSome_55 (lv_at hl 3 rfl) ?_
              refine lv_if_lt (tgt := 74) hx hb dM_keyOfSome_57 (by decide) (fun hc18 => ?_) (fun hc18 => ?_)
              · refine lv_iconst (v := 1) hx hb dM_keyOfSome_74 (by decide) ?_
                refine lv_goto (tgt := 79) hx hb dM_keyOfSome_75 (by decide) ?_
                refine jt_topi (fun x19 ex19 => ?_)
                refine lv_istore_n (lv' := [(3, .int x19), (5, .int (nI (b - (n + 1)))), (2, .int a), (4, .int t), (1, .int k), (0, .ref (g.2.2 0))]) hx hb dM_keyOfSome_79 rfl hl (by decide) rfl (fun ls hl => ?_)
                refine lv_aload_n hx hb dM_keyOfSome_80 rfl (lv_at hl 5 rfl) ?_
                refine va_get (D := g.1) (ci := 1) (v := .ref (g.2.2 4)) (C := "HandTablesModel") (T := T_M) (N := 20) hx hb hts (fun w hw => wd_in (u_inM w hw)) hown hK hP 0 rfl rfl 5 (by decide) (hts _ (wd_in (gw_mem 462 rfl rfl))) (fun _ h => h) rfl dM_keyOfSome_81 ?_
                refine lv_iload hx hb dM_keyOfSome_84 (lv_at hl 1 rfl) ?_
                refine va_iald hx hb hK hP 4 0 rfl rfl (vp_in_nI (by omega) (by omega)) dM_keyOfSome_86 ?_
                refine lv_iconst (v := 4) hx hb dM_keyOfSome_87 (by decide) ?_
                refine jv_irem hx hb dM_keyOfSome_88 (by decide) ?_
                refine jt_topi (fun x20 ex20 => ?_)
                refine lv_istore (lv' := [(4, .int x20), (3, .int x19), (5, .int (nI (b - (n + 1)))), (2, .int a), (1, .int k), (0, .ref (g.2.2 0))]) hx hb dM_keyOfSome_89 hl (by decide) rfl (fun ls hl => ?_)
                refine jv_iinc (a := 1) hx hb dM_keyOfSome_91 hl (k := 3) rfl (by decide) (by decide) (fun x21 ex21 ls hl => ?_)
                have hl : lv_has ls 6 [(2, .int x21), (4, .int x20), (3, .int x19), (5, .int (nI (b - (n + 1)))), (1, .int k), (0, .ref (g.2.2 0))] := hl
                refine jv_iinc (a := 1) hx hb dM_keyOfSome_94 hl (k := 3) rfl (by decide) (by decide) (fun x22 ex22 ls hl => ?_)
                have hl : lv_has ls 6 [(5, .int x22), (2, .int x21), (4, .int x20), (3, .int x19), (1, .int k), (0, .ref (g.2.2 0))] := hl
                refine lv_goto (tgt := 10) hx hb dM_keyOfSome_97 (by decide) ?_
                rw [nI_up (by omega)] at ex22
                have hlB := lv_sub hl [0, 1, 3, 2, 4, 5] rfl
                have hPB := hP
                have hSB := hSS
                subst ex22 ex21 ex20 ex19
                exact ih _ _ _  _ _ _ _ hlB hPB hSB (by omega) ⟨q + 1, kq_lt hq1 hq2 hc12, by rw [hq2, nI_1], kq_up hq2 hq1 hc12 hq3 (k_d4 (by rw [nI_clamp (by omega)]; exact hh _ (by omega)))⟩ (by rw [hF]; simp only [ko_lp, if_pos hc10, if_neg hc12, if_neg hc13, if_pos hc18])
              · refine lv_aload_n hx hb dM_keyOfSome_60 rfl (lv_at hl 5 rfl) ?_
                refine va_get (D := g.1) (ci := 1) (v := .ref (g.2.2 4)) (C := "HandTablesModel") (T := T_M) (N := 20) hx hb hts (fun w hw => wd_in (u_inM w hw)) hown hK hP 0 rfl rfl 5 (by decide) (hts _ (wd_in (gw_mem 462 rfl rfl))) (fun _ h => h) rfl dM_keyOfSome_61 ?_
                refine lv_iload hx hb dM_keyOfSome_64 (lv_at hl 0 rfl) ?_
                refine va_iald hx hb hK hP 4 0 rfl rfl (vp_in_nI (by omega) (by omega)) dM_keyOfSome_66 ?_
                refine lv_iconst (v := 4) hx hb dM_keyOfSome_67 (by decide) ?_
                refine jv_irem hx hb dM_keyOfSome_68 (by decide) ?_
                refine lv_iload hx hb dM_keyOfSome_69 (lv_at hl 3 rfl) ?_
                refine lv_icmp_ne (tgt := 78) hx hb dM_keyOfSome_71 (by decide) (fun hc23 => ?_) (fun hc23 => ?_)
                · refine lv_iconst (v := 0) hx hb dM_keyOfSome_78 (by decide) ?_
                  refine jt_topi (fun x24 ex24 => ?_)
                  refine lv_istore_n (lv' := [(3, .int x24), (5, .int (nI (b - (n + 1)))), (2, .int a), (4, .int t), (1, .int k), (0, .ref (g.2.2 0))]) hx hb dM_keyOfSome_79 rfl hl (by decide) rfl (fun ls hl => ?_)
                  refine lv_aload_n hx hb dM_keyOfSome_80 rfl (lv_at hl 5 rfl) ?_
                  refine va_get (D := g.1) (ci := 1) (v := .ref (g.2.2 4)) (C := "HandTablesModel") (T := T_M) (N := 20) hx hb hts (fun w hw => wd_in (u_inM w hw)) hown hK hP 0 rfl rfl 5 (by decide) (hts _ (wd_in (gw_mem 462 rfl rfl))) (fun _ h => h) rfl dM_keyOfSome_81 ?_
                  refine lv_iload hx hb dM_keyOfSome_84 (lv_at hl 1 rfl) ?_
                  refine va_iald hx hb hK hP 4 0 rfl rfl (vp_in_nI (by omega) (by omega)) dM_keyOfSome_86 ?_
                  refine lv_iconst (v := 4) hx hb dM_keyOfSome_87 (by decide) ?_
                  refine jv_irem hx hb dM_keyOfSome_88 (by decide) ?_
                  refine jt_topi (fun x25 ex25 => ?_)
                  refine lv_istore (lv' := [(4, .int x25), (3, .int x24), (5, .int (nI (b - (n + 1)))), (2, .int a), (1, .int k), (0, .ref (g.2.2 0))]) hx hb dM_keyOfSome_89 hl (by decide) rfl (fun ls hl => ?_)
                  refine jv_iinc (a := 1) hx hb dM_keyOfSome_91 hl (k := 3) rfl (by decide) (by decide) (fun x26 ex26 ls hl => ?_)
                  have hl : lv_has ls 6 [(2, .int x26), (4, .int x25), (3, .int x24), (5, .int (nI (b - (n + 1)))), (1, .int k), (0, .ref (g.2.2 0))] := hl
                  refine jv_iinc (a := 1) hx hb dM_keyOfSome_94 hl (k := 3) rfl (by decide) (by decide) (fun x27 ex27 ls hl => ?_)
                  have hl : lv_has ls 6 [(5, .int x27), (2, .int x26), (4, .int x25), (3, .int x24), (1, .int k), (0, .ref (g.2.2 0))] := hl
                  refine lv_goto (tgt := 10) hx hb dM_keyOfSome_97 (by decide) ?_
                  rw [nI_up (by omega)] at ex27
                  have hlB := lv_sub hl [0, 1, 3, 2, 4, 5] rfl
                  have hPB := hP
                  have hSB := hSS
                  subst ex27 ex26 ex25 ex24
                  exact ih _ _ _  _ _ _ _ hlB hPB hSB (by omega) ⟨q + 1, kq_lt hq1 hq2 hc12, by rw [hq2, nI_1], kq_up hq2 hq1 hc12 hq3 (k_d4 (by rw [nI_clamp (by omega)]; exact hh _ (by omega)))⟩ (by rw [hF]; simp only [ko_lp, if_pos hc10, if_neg hc12, if_neg hc13, if_neg hc18, if_neg hc23])
                · refine lv_iconst (v := 1) hx hb dM_keyOfSome_74 (by decide) ?_
                  refine lv_goto (tgt := 79) hx hb dM_keyOfSome_75 (by decide) ?_
                  refine jt_topi (fun x28 ex28 => ?_)
                  refine lv_istore_n (lv' := [(3, .int x28), (5, .int (nI (b - (n + 1)))), (2, .int a), (4, .int t), (1, .int k), (0, .ref (g.2.2 0))]) hx hb dM_keyOfSome_79 rfl hl (by decide) rfl (fun ls hl => ?_)
                  refine lv_aload_n hx hb dM_keyOfSome_80 rfl (lv_at hl 5 rfl) ?_
                  refine va_get (D := g.1) (ci := 1) (v := .ref (g.2.2 4)) (C := "HandTablesModel") (T := T_M) (N := 20) hx hb hts (fun w hw => wd_in (u_inM w hw)) hown hK hP 0 rfl rfl 5 (by decide) (hts _ (wd_in (gw_mem 462 rfl rfl))) (fun _ h => h) rfl dM_keyOfSome_81 ?_
                  refine lv_iload hx hb dM_keyOfSome_84 (lv_at hl 1 rfl) ?_
                  refine va_iald hx hb hK hP 4 0 rfl rfl (vp_in_nI (by omega) (by omega)) dM_keyOfSome_86 ?_
                  refine lv_iconst (v := 4) hx hb dM_keyOfSome_87 (by decide) ?_
                  refine jv_irem hx hb dM_keyOfSome_88 (by decide) ?_
                  refine jt_topi (fun x29 ex29 => ?_)
                  refine lv_istore (lv' := [(4, .int x29), (3, .int x28), (5, .int (nI (b - (n + 1)))), (2, .int a), (1, .int k), (0, .ref (g.2.2 0))]) hx hb dM_keyOfSome_89 hl (by decide) rfl (fun ls hl => ?_)
                  refine jv_iinc (a := 1) hx hb dM_keyOfSome_91 hl (k := 3) rfl (by decide) (by decide) (fun x30 ex30 ls hl => ?_)
                  have hl : lv_has ls 6 [(2, .int x30), (4, .int x29), (3, .int x28), (5, .int (nI (b - (n + 1)))), (1, .int k), (0, .ref (g.2.2 0))] := hl
                  refine jv_iinc (a := 1) hx hb dM_keyOfSome_94 hl (k := 3) rfl (by decide) (by decide) (fun x31 ex31 ls hl => ?_)
                  have hl : lv_has ls 6 [(5, .int x31), (2, .int x30), (4, .int x29), (3, .int x28), (1, .int k), (0, .ref (g.2.2 0))] := hl
                  refine lv_goto (tgt := 10) hx hb dM_keyOfSome_97 (by decide) ?_
                  rw [nI_up (by omega)] at ex31
                  have hlB := lv_sub hl [0, 1, 3, 2, 4, 5] rfl
                  have hPB := hP
                  have hSB := hSS
                  subst ex31 ex30 ex29 ex28
                  exact ih _ _ _  _ _ _ _ hlB hPB hSB (by omega) ⟨q + 1, kq_lt hq1 hq2 hc12, by rw [hq2, nI_1], kq_up hq2 hq1 hc12 hq3 (k_d4 (by rw [nI_clamp (by omega)]; exact hh _ (by omega)))⟩ (by rw [hF]; simp only [ko_lp, if_pos hc10, if_neg hc12, if_neg hc13, if_neg hc18, if_pos hc23])
          · refine lv_iconst (v := (-1)) hx hb dM_keyOfSome_34 (by decide) ?_
            exact mm_iret (S := (th, ks, kc, wrn5, oc, hd, (nI b), se, bd, bs, dk, dp, ct, bo, wi, sh, lf, lc, mo, ah)) hx hb hr hlk dM_keyOfSome_35 hP hSS (by subst ex4 ex3 ex2 ex1; exact ⟨by rw [hF]; simp only [ko_lp, if_pos hc10, if_pos hc12], _, _, rfl⟩)
  exact hloop b x1 x2 x3  rn _ _ ls (by have h9 := lv_sub hl [0, 3, 2, 1, 5, 4] rfl; subst ex4; rw [Nat.sub_self]; exact h9) hP hSS (Nat.le_refl _) ⟨0, by omega, by subst_vars; rfl, fun i hi => absurd hi (by omega)⟩ (by subst_vars; exact k_some_any _ _ _ _)
set_option maxHeartbeats 4000000 in
set_option maxRecDepth 100000 in
theorem cM_bestKey (l : Launch) (g : mo_E) (th : Int32) (ks : Nat → Int32) (kc : Int32) (rn : Nat → Int32) (oc : Nat → Int32) (hd : Nat → Int32) (b : Nat) (se : Nat → Int32) (bd : Nat → Int32) (bs : Int32) (dk : Nat → Int32) (dp : Int32) (ct : Int32) (bo : Int32) (wi : Nat → Int32) (sh : Nat → Int32) (lf : Nat → Int32) (lc : Int32) (mo : Int32) (ah : Int32)   (hap : mo_ap g) (hb7 : b ≤ 7) (hh : ∀ i, i < b → vp_in (hd i) 52) : mm_M l yM_bestKey bM_bestKey 4 (some .int) 3 [.ref (g.2.2 0)] g (th, ks, kc, rn, oc, hd, (nI b), se, bd, bs, dk, dp, ct, bo, wi, sh, lf, lc, mo, ah) (fun v9 S9 => v9 = some (.int (k_best hd b)) ∧ ∃ (rn' : Nat → Int32) (oc' : Nat → Int32), S9 = (th, ks, kc, rn', oc', hd, (nI b), se, bd, bs, dk, dp, ct, bo, wi, sh, lf, lc, mo, ah)) := by
  have hpw := k_pow b (by omega)
  have hN := k_pow_le b (by omega)
  refine Met.ofW (cc := bM_bestKey) (maxL := 4) (ret := (some .int)) (by decide) rfl ?_
  intro p e s m args below meth c s₁ BB hml hv
  obtain ⟨rfl, hB⟩ := hv
  have hx := BB.exec
  have hb := BB.bytes
  have hr := BB.returns
  have hlk := BB.notSynchronized
  have hts := atoms_spec (ws := wd yM_bestKey bM_bestKey 4 (some .int)) BB.pre
  have hown : s.vm.findClass "HandTablesModel" = some m.cls := findClass_of_methodNamed BB.named
  have hS : CallFix p m c bM_bestKey 4 s _ (wd yM_bestKey bM_bestKey 4 (some .int)) "HandTablesModel" := ⟨hx, hb, hml, hown, hts⟩
  obtain ⟨hP, hK⟩ := hB
  have hP : va_P g.1 cl_X (mo_V g th ks kc rn oc hd (nI b) se bd bs dk dp ct bo wi sh lf lc mo ah) s.heap := hP
  have hSS : va_S (mo_fr g) s.heap s.heap [] := va_S.rf
  have hl := lv_entry ([.ref (g.2.2 0)]) (n := 4) (Nat.le_of_ble_eq_true rfl)
  rw [lg_entry_eq]
  generalize (lg_sl ([.ref (g.2.2 0)]) ++ List.replicate (4 - (lg_sl ([.ref (g.2.2 0)])).length) Slot.unset).toArray = ls at hl ⊢
  have hl : lv_has ls 4 [(0, .ref (g.2.2 0))] := hl
  obtain ⟨H, eH⟩ : ∃ H, s.heap = H := ⟨_, rfl⟩
  obtain ⟨locs, eL⟩ : ∃ L, ([] : List Loc) = L := ⟨_, rfl⟩
  have hP : va_P g.1 cl_X (mo_V g th ks kc rn oc hd (nI b) se bd bs dk dp ct bo wi sh lf lc mo ah) H := by rw [← eH]; exact hP
  have hSS : va_S (mo_fr g) s.heap H locs := by rw [← eH, ← eL]; exact hSS
  refine mm_go eH eL ?_
  clear eH eL
  refine lv_iconst (v := (-1)) hx hb dM_bestKey_0 (by decide) ?_
  refine jt_topi (fun x1 ex1 => ?_)
  refine lv_istore_n (lv' := [(1, .int x1), (0, .ref (g.2.2 0))]) hx hb dM_bestKey_1 rfl hl (by decide) rfl (fun ls hl => ?_)
  refine lv_iconst (v := 0) hx hb dM_bestKey_2 (by decide) ?_
  refine jt_topi (fun x2 ex2 => ?_)
  refine lv_istore_n (lv' := [(2, .int x2), (1, .int x1), (0, .ref (g.2.2 0))]) hx hb dM_bestKey_3 rfl hl (by decide) rfl (fun ls hl => ?_)
  have hloop : ∀ (n : Nat) (a : Int32)  (wrn3 : Nat → Int32) (woc3 : Nat → Int32) (H : Heap) (locs : List Loc) (ls : Array Slot), lv_has ls 4 [(2, .int (nI (2 ^ b - n))), (1, .int a), (0, .ref (g.2.2 0))] → va_P g.1 cl_X (mo_V g th ks kc wrn3 woc3 hd (nI b) se bd bs dk dp ct bo wi sh lf lc mo ah) H → va_S (mo_fr g) s.heap H locs → (n ≤ 2 ^ b) → (∀ (rn' : Nat → Int32) (oc' : Nat → Int32) (H : Heap) (locs : List Loc) (ls : Array Slot), lv_has ls 4 [(1, .int (km_lp hd b n a))] → va_P g.1 cl_X (mo_V g th ks kc rn' oc' hd (nI b) se bd bs dk dp ct bo wi sh lf lc mo ah) H → va_S (mo_fr g) s.heap H locs → W p l e (headSpec (wd yM_bestKey bM_bestKey 4 (some .int)) (rmD 3 0 0)).room s m ([.ref (g.2.2 0)]).toArray below meth c H locs 0 0 (MQ below (mm_Q g (fun v9 S9 => v9 = some (.int (k_best hd b)) ∧ ∃ (rn' : Nat → Int32) (oc' : Nat → Int32), S9 = (th, ks, kc, rn', oc', hd, (nI b), se, bd, bs, dk, dp, ct, bo, wi, sh, lf, lc, mo, ah))) ([.ref (g.2.2 0)]).toArray s 0 0 (mo_fr g)) (F0 m 37 ls [])) → W p l e (headSpec (wd yM_bestKey bM_bestKey 4 (some .int)) (rmD 3 0 0)).room s m ([.ref (g.2.2 0)]).toArray below meth c H locs 0 0 (MQ below (mm_Q g (fun v9 S9 => v9 = some (.int (k_best hd b)) ∧ ∃ (rn' : Nat → Int32) (oc' : Nat → Int32), S9 = (th, ks, kc, rn', oc', hd, (nI b), se, bd, bs, dk, dp, ct, bo, wi, sh, lf, lc, mo, ah))) ([.ref (g.2.2 0)]).toArray s 0 0 (mo_fr g)) (F0 m 4 ls []) := by
    intro n
    induction n with
    | zero =>
      intro a  wrn3 woc3 H locs ls hl hP hSS hn K
      refine lv_iload_n hx hb dM_bestKey_4 rfl (lv_at hl 0 rfl) ?_
      refine lv_iconst (v := 1) hx hb dM_bestKey_5 (by decide) ?_
      refine lv_aload_n hx hb dM_bestKey_6 rfl (lv_at hl 2 rfl) ?_
      refine va_get (D := g.1) (ci := 1) (v := .int (nI b)) (C := "HandTablesModel") (T := T_M) (N := 20) hx hb hts (fun w hw => wd_in (u_inM w hw)) hown hK hP 0 rfl rfl 6 (by decide) (hts _ (wd_in (gw_mem 463 rfl rfl))) (fun _ h => h) rfl dM_bestKey_7 ?_
      refine jv_ishl hx hb dM_bestKey_10 ?_
      refine lv_icmp_ge (tgt := 37) hx hb dM_bestKey_11 (by decide) (fun hc4 => ?_) (fun hc4 => ?_)
      · have hlB := lv_sub hl [1] rfl
        have hPB := hP
        have hSB := hSS
        simp only [km_lp] at K
        exact K _ _ _ _ _ hlB hPB hSB 
      · exact absurd (show jli 1 (nI b) ≤ nI (2 ^ b) by rw [hpw]; exact Int32.le_refl _) hc4
    | succ n ih =>
      intro a  wrn3 woc3 H locs ls hl hP hSS hn K
      refine lv_iload_n hx hb dM_bestKey_4 rfl (lv_at hl 0 rfl) ?_
      refine lv_iconst (v := 1) hx hb dM_bestKey_5 (by decide) ?_
      refine lv_aload_n hx hb dM_bestKey_6 rfl (lv_at hl 2 rfl) ?_
      refine va_get (D := g.1) (ci := 1) (v := .int (nI b)) (C := "HandTablesModel") (T := T_M) (N := 20) hx hb hts (fun w hw => wd_in (u_inM w hw)) hown hK hP 0 rfl rfl 6 (by decide) (hts _ (wd_in (gw_mem 463 rfl rfl))) (fun _ h => h) rfl dM_bestKey_7 ?_
      refine jv_ishl hx hb dM_bestKey_10 ?_
      refine lv_icmp_ge (tgt := 37) hx hb dM_bestKey_11 (by decide) (fun hc5 => ?_) (fun hc5 => ?_)
      · exact absurd hc5 (by rw [hpw]; exact nI_ge (by omega) (by omega))
      · refine lv_aload_n hx hb dM_bestKey_14 rfl (lv_at hl 2 rfl) ?_
        refine lv_iload_n hx hb dM_bestKey_15 rfl (lv_at hl 0 rfl) ?_
        refine mm_V (cM_keyOfSome l g th ks kc wrn3 woc3 hd b se bd bs dk dp ct bo wi sh lf lc mo ah (nI (2 ^ b - (n + 1))) hap hb7 hh) rfl kM_M_keyOfSome hS hK hP ⟨Nat.le_of_ble_eq_true rfl, Nat.le_of_ble_eq_true rfl⟩ hl.1 rfl (Nat.le_of_ble_eq_true rfl) ⟨Nat.zero_le _, Nat.zero_le _⟩ dM_bestKey_16 hSS (fun v9 S9 H locs hR hP hSS => ?_)
        obtain ⟨rfl, rn6, oc7, rfl⟩ := hR
        have hP : va_P g.1 cl_X (mo_V g th ks kc rn6 oc7 hd (nI b) se bd bs dk dp ct bo wi sh lf lc mo ah) H := hP
        refine jt_topi (fun x8 ex8 => ?_)
        refine lv_istore_n (lv' := [(3, .int x8), (2, .int (nI (2 ^ b - (n + 1)))), (1, .int a), (0, .ref (g.2.2 0))]) hx hb dM_bestKey_19 rfl hl (by decide) rfl (fun ls hl => ?_)
        refine lv_iload_n hx hb dM_bestKey_20 rfl (lv_at hl 0 rfl) ?_
        refine lv_iload_n hx hb dM_bestKey_21 rfl (lv_at hl 2 rfl) ?_
        refine lv_icmp_le (tgt := 29) hx hb dM_bestKey_22 (by decide) (fun hc9 => ?_) (fun hc9 => ?_)
        · refine lv_iload_n hx hb dM_bestKey_29 rfl (lv_at hl 2 rfl) ?_
          refine jt_topi (fun x10 ex10 => ?_)
          refine lv_istore_n (lv' := [(1, .int x10), (3, .int x8), (2, .int (nI (2 ^ b - (n + 1)))), (0, .ref (g.2.2 0))]) hx hb dM_bestKey_30 rfl hl (by decide) rfl (fun ls hl => ?_)
          refine jv_iinc (a := 1) hx hb dM_bestKey_31 hl (k := 2) rfl (by decide) (by decide) (fun x11 ex11 ls hl => ?_)
          have hl : lv_has ls 4 [(2, .int x11), (1, .int x10), (3, .int x8), (0, .ref (g.2.2 0))] := hl
          refine lv_goto (tgt := 4) hx hb dM_bestKey_34 (by decide) ?_
          rw [nI_up (by omega)] at ex11
          have hlB := lv_sub hl [0, 1, 3] rfl
          have hPB := hP
          have hSB := hSS
          subst ex11 ex10 ex8
          simp only [km_lp, if_pos hc9] at K
          exact ih _  _ _ _ _ _ hlB hPB hSB (by omega) K
        · refine lv_iload_n hx hb dM_bestKey_25 rfl (lv_at hl 0 rfl) ?_
          refine lv_goto (tgt := 30) hx hb dM_bestKey_26 (by decide) ?_
          refine jt_topi (fun x12 ex12 => ?_)
          refine lv_istore_n (lv' := [(1, .int x12), (3, .int x8), (2, .int (nI (2 ^ b - (n + 1)))), (0, .ref (g.2.2 0))]) hx hb dM_bestKey_30 rfl hl (by decide) rfl (fun ls hl => ?_)
          refine jv_iinc (a := 1) hx hb dM_bestKey_31 hl (k := 2) rfl (by decide) (by decide) (fun x13 ex13 ls hl => ?_)
          have hl : lv_has ls 4 [(2, .int x13), (1, .int x12), (3, .int x8), (0, .ref (g.2.2 0))] := hl
          refine lv_goto (tgt := 4) hx hb dM_bestKey_34 (by decide) ?_
          rw [nI_up (by omega)] at ex13
          have hlB := lv_sub hl [0, 1, 3] rfl
          have hPB := hP
          have hSB := hSS
          subst ex13 ex12 ex8
          simp only [km_lp, if_neg hc9] at K
          exact ih _  _ _ _ _ _ hlB hPB hSB (by omega) K
  refine hloop (2 ^ b) x1  rn oc _ _ ls (by have h9 := lv_sub hl [0, 1, 2] rfl; subst ex2; rw [Nat.sub_self]; exact h9) hP hSS (Nat.le_refl _) (fun rn14 oc15 H locs ls hl hP hSS  => ?_)
  clear hloop
  obtain ⟨y16, ey16⟩ : ∃ z, (km_lp hd b (2 ^ b) x1) = z := ⟨_, rfl⟩
  rw [ey16] at hl
  refine lv_iload_n hx hb dM_bestKey_37 rfl (lv_at hl 0 rfl) ?_
  exact mm_iret (S := (th, ks, kc, rn14, oc15, hd, (nI b), se, bd, bs, dk, dp, ct, bo, wi, sh, lf, lc, mo, ah)) hx hb hr hlk dM_bestKey_38 hP hSS (by exact ⟨by subst ey16 ex2 ex1; (try simp only [k_best]) <;> rfl, rn14, oc15, by subst ey16 ex2 ex1; (try simp only [k_best]) <;> rfl⟩)
