/-! the model: the table and the deck -/
def kd_2 (f : Nat → Int32) (b : Nat) (k : Int32) : Nat → Int32
  | 0 => 0
  | n + 1 => if f (nI (b - (n + 1))).toNatClampNeg = k then 1 else kd_2 f b k n
def kd_1 (h f : Nat → Int32) (b : Nat) (k u : Int32) : Nat → Int32
  | 0 => kd_2 f b k b
  | n + 1 => if h (nI (12 - (n + 1))).toNatClampNeg = k then (if nI (12 - (n + 1)) / 2 = u then kd_1 h f b k u n else 1) else kd_1 h f b k u n
/-- 1 where the card k lies at a seat other than u, or on the board -/
def k_stands (h f : Nat → Int32) (b : Nat) (k u : Int32) : Int32 := kd_1 h f b k u 12
theorem k_s2 {q : Int32} (h : m_noSeat q = 0) : vp_in (2 * q) 12 ∧ vp_in (2 * q + 1) 12 ∧ vp_in q 6 := by
  unfold m_noSeat at h
  split at h
  · exact absurd h (by decide)
  · split at h
    · rename_i h1 h2
      obtain ⟨j, hj, e⟩ := nI_of2 (M := 5) (n := 5) rfl h1 h2
      rw [e, show 2 * nI j = nI (2 * j) from pk_mul 2 j, nI_1]
      exact ⟨vp_in_nI (by omega) (by decide), vp_in_nI (by omega) (by decide), vp_in_nI (by omega) (by decide)⟩
    · exact absurd h (by decide)
def k_seatT (q k1 k2 : Int32) : Int32 := if m_noSeat q = 0 then (if m_noCard k1 = 0 then (if m_noCard k2 = 0 then 0 else 2) else 2) else 1
def k_seatV (h f : Nat → Int32) (b : Nat) (q k1 k2 : Int32) : Int32 := if m_noSeat q = 0 then (if m_noCard k1 = 0 then (if m_noCard k2 = 0 then (if k1 = k2 then 0 else if k_stands h f b k1 q = 0 then (if k_stands h f b k2 q = 0 then 1 else 0) else 0) else 0) else 0) else 0
def k_leaveV (h : Nat → Int32) (q : Int32) : Int32 := if m_noSeat q = 0 then (if h (2 * q).toNatClampNeg = -1 then 0 else 1) else 0
def k_boardV (h f : Nat → Int32) (b : Nat) (k : Int32) : Int32 := if m_noCard k = 0 then (if nI b = 5 then -1 else if k_stands h f b k (-1) = 0 then nI b + 1 else -1) else 0
def k_boardC (h f : Nat → Int32) (b : Nat) (k : Int32) : Int32 := if m_noCard k = 0 then (if nI b = 5 then 0 else if k_stands h f b k (-1) = 0 then 1 else 0) else 0
def kd_c (f : Nat → Int32) (b : Nat) : Nat → Int64 → Int64
  | 0, z => z
  | n + 1, z => kd_c f b n (z ||| jl 1 (f (nI (b - (n + 1))).toNatClampNeg))
/-- the set of the board's cards -/
def k_bset (f : Nat → Int32) (b : Nat) : Int64 := kd_c f b b 0
def ke_lp (h : Nat → Int32) : Nat → Int32 → Int32
  | 0, a => a
  | n + 1, a => ke_lp h n (if a = 0 then 0 else if h (2 * nI (6 - (n + 1))).toNatClampNeg = -1 then 1 else 0)
def k_empty (h : Nat → Int32) : Int32 := ke_lp h 6 1
theorem ke_01 (h : Nat → Int32) : ∀ (n : Nat) (a : Int32), a = 0 ∨ a = 1 → ke_lp h n a = 0 ∨ ke_lp h n a = 1
  | 0, a, ha => ha
  | n + 1, a, ha => by
    unfold ke_lp
    refine ke_01 h n _ ?_
    split
    · exact Or.inl rfl
    · split
      · exact Or.inr rfl
      · exact Or.inl rfl
theorem k_2n {j : Nat} (h : j < 6) : vp_in (2 * nI j) 12 := by
  rw [show 2 * nI j = nI (2 * j) from pk_mul 2 j]
  exact vp_in_nI (by omega) (by decide)
def kf_lp (h f : Nat → Int32) (b : Nat) : Nat → Int32 → (Nat → Int32) → Int32 × (Nat → Int32)
  | 0, z, w => (z, w)
  | n + 1, z, w => if k_stands h f b (nI (52 - (n + 1))) (-1) = 0 then kf_lp h f b n (z + 1) (upd w z.toNatClampNeg (nI (52 - (n + 1)))) else kf_lp h f b n z w
def k_left (h f : Nat → Int32) (b : Nat) (w : Nat → Int32) : Int32 × (Nat → Int32) := kf_lp h f b 52 0 w
def kk_lp : Nat → (Nat → Int32) → Nat → Int32
  | 0, f => f
  | n + 1, f => kk_lp n (upd f (nI (52 - (n + 1))).toNatClampNeg (nI (52 - (n + 1))))
def k_fresh (f : Nat → Int32) : Nat → Int32 := kk_lp 52 f
def kp_lp : Nat → Int32 → (Nat → Int32) → Nat → Int32
  | 0, _, f => f
  | n + 1, x, f => kp_lp n (sh_x x) (upd (upd f (nI (n + 1)).toNatClampNeg (f (sh_j (sh_x x) (nI (n + 1))).toNatClampNeg)) (sh_j (sh_x x) (nI (n + 1))).toNatClampNeg (f (nI (n + 1)).toNatClampNeg))
def k_shuf (x : Int32) (f : Nat → Int32) : Nat → Int32 := kp_lp 51 x (k_fresh f)
set_option maxHeartbeats 4000000 in
set_option maxRecDepth 100000 in
theorem cM_stands (l : Launch) (g : mo_E) (th : Int32) (ks : Nat → Int32) (kc : Int32) (rn : Nat → Int32) (oc : Nat → Int32) (hd : Nat → Int32) (hs : Int32) (se : Nat → Int32) (bd : Nat → Int32) (b : Nat) (dk : Nat → Int32) (dp : Int32) (ct : Int32) (bo : Int32) (wi : Nat → Int32) (sh : Nat → Int32) (lf : Nat → Int32) (lc : Int32) (mo : Int32) (ah : Int32) (k : Int32) (u : Int32)  (hap : mo_ap g) (hb5 : b ≤ 5) : mm_M l yM_stands bM_stands 4 (some .boolean) 0 [.ref (g.2.2 0), .int k, .int u] g (th, ks, kc, rn, oc, hd, hs, se, bd, (nI b), dk, dp, ct, bo, wi, sh, lf, lc, mo, ah) (fun v9 S9 => v9 = some (.int (k_stands se bd b k u)) ∧ S9 = (th, ks, kc, rn, oc, hd, hs, se, bd, (nI b), dk, dp, ct, bo, wi, sh, lf, lc, mo, ah)) := by
  refine Met.ofW (cc := bM_stands) (maxL := 4) (ret := (some .boolean)) (by decide) rfl ?_
  intro p e s m args below meth c s₁ BB hml hv
  obtain ⟨rfl, hB⟩ := hv
  have hx := BB.exec
  have hb := BB.bytes
  have hr := BB.returns
  have hlk := BB.notSynchronized
  have hts := atoms_spec (ws := wd yM_stands bM_stands 4 (some .boolean)) BB.pre
  have hown : s.vm.findClass "HandTablesModel" = some m.cls := findClass_of_methodNamed BB.named
  have hS : CallFix p m c bM_stands 4 s _ (wd yM_stands bM_stands 4 (some .boolean)) "HandTablesModel" := ⟨hx, hb, hml, hown, hts⟩
  obtain ⟨hP, hK⟩ := hB
  have hP : va_P g.1 cl_X (mo_V g th ks kc rn oc hd hs se bd (nI b) dk dp ct bo wi sh lf lc mo ah) s.heap := hP
  have hSS : va_S (mo_fr g) s.heap s.heap [] := va_S.rf
  have hl := lv_entry ([.ref (g.2.2 0), .int k, .int u]) (n := 4) (Nat.le_of_ble_eq_true rfl)
  rw [lg_entry_eq]
  generalize (lg_sl ([.ref (g.2.2 0), .int k, .int u]) ++ List.replicate (4 - (lg_sl ([.ref (g.2.2 0), .int k, .int u])).length) Slot.unset).toArray = ls at hl ⊢
  have hl : lv_has ls 4 [(0, .ref (g.2.2 0)), (1, .int k), (2, .int u)] := hl
  obtain ⟨H, eH⟩ : ∃ H, s.heap = H := ⟨_, rfl⟩
  obtain ⟨locs, eL⟩ : ∃ L, ([] : List Loc) = L := ⟨_, rfl⟩
  have hP : va_P g.1 cl_X (mo_V g th ks kc rn oc hd hs se bd (nI b) dk dp ct bo wi sh lf lc mo ah) H := by rw [← eH]; exact hP
  have hSS : va_S (mo_fr g) s.heap H locs := by rw [← eH, ← eL]; exact hSS
  refine mm_go eH eL ?_
  clear eH eL
  refine lv_iconst (v := 0) hx hb dM_stands_0 (by decide) ?_
  refine jt_topi (fun x1 ex1 => ?_)
  refine lv_istore_n (lv' := [(3, .int x1), (0, .ref (g.2.2 0)), (1, .int k), (2, .int u)]) hx hb dM_stands_1 rfl hl (by decide) rfl (fun ls hl => ?_)
  have hloop : ∀ (n : Nat)    (H : Heap) (locs : List Loc) (ls : Array Slot), lv_has ls 4 [(3, .int (nI (12 - n))), (2, .int u), (1, .int k), (0, .ref (g.2.2 0))] → va_P g.1 cl_X (mo_V g th ks kc rn oc hd hs se bd (nI b) dk dp ct bo wi sh lf lc mo ah) H → va_S (mo_fr g) s.heap H locs → (n ≤ 12) → (k_stands se bd b k u = kd_1 se bd b k u n) → W p l e (headSpec (wd yM_stands bM_stands 4 (some .boolean)) (rmD 0 0 0)).room s m ([.ref (g.2.2 0), .int k, .int u]).toArray below meth c H locs 0 0 (MQ below (mm_Q g (fun v9 S9 => v9 = some (.int (k_stands se bd b k u)) ∧ S9 = (th, ks, kc, rn, oc, hd, hs, se, bd, (nI b), dk, dp, ct, bo, wi, sh, lf, lc, mo, ah))) ([.ref (g.2.2 0), .int k, .int u]).toArray s 0 0 (mo_fr g)) (F0 m 2 ls []) := by
    intro n
    induction n with
    | zero =>
      intro    H locs ls hl hP hSS hn hF
      refine lv_iload_n hx hb dM_stands_2 rfl (lv_at hl 0 rfl) ?_
      refine lv_bipush (v := 12) hx hb dM_stands_3 (by decide) ?_
      refine lv_icmp_ge (tgt := 33) hx hb dM_stands_5 (by decide) (fun hc3 => ?_) (fun hc3 => ?_)
      · refine lv_iconst (v := 0) hx hb dM_stands_33 (by decide) ?_
        refine jt_topi (fun x4 ex4 => ?_)
        refine lv_istore_n (lv' := [(3, .int x4), (2, .int u), (1, .int k), (0, .ref (g.2.2 0))]) hx hb dM_stands_34 rfl hl (by decide) rfl (fun ls hl => ?_)
        have hloop : ∀ (j : Nat)    (H : Heap) (locs : List Loc) (ls : Array Slot), lv_has ls 4 [(3, .int (nI (b - j))), (1, .int k), (0, .ref (g.2.2 0))] → va_P g.1 cl_X (mo_V g th ks kc rn oc hd hs se bd (nI b) dk dp ct bo wi sh lf lc mo ah) H → va_S (mo_fr g) s.heap H locs → (j ≤ b) → (k_stands se bd b k u = kd_2 bd b k j) → W p l e (headSpec (wd yM_stands bM_stands 4 (some .boolean)) (rmD 0 0 0)).room s m ([.ref (g.2.2 0), .int k, .int u]).toArray below meth c H locs 0 0 (MQ below (mm_Q g (fun v9 S9 => v9 = some (.int (k_stands se bd b k u)) ∧ S9 = (th, ks, kc, rn, oc, hd, hs, se, bd, (nI b), dk, dp, ct, bo, wi, sh, lf, lc, mo, ah))) ([.ref (g.2.2 0), .int k, .int u]).toArray s 0 0 (mo_fr g)) (F0 m 35 ls []) := by
          intro j
          induction j with
          | zero =>
            intro    H locs ls hl hP hSS hj hF2
            refine lv_iload_n hx hb dM_stands_35 rfl (lv_at hl 0 rfl) ?_
            refine lv_aload_n hx hb dM_stands_36 rfl (lv_at hl 2 rfl) ?_
            refine va_get (D := g.1) (ci := 1) (v := .int (nI b)) (C := "HandTablesModel") (T := T_M) (N := 20) hx hb hts (fun w hw => wd_in (u_inM w hw)) hown hK hP 0 rfl rfl 9 (by decide) (hts _ (wd_in (gw_mem 466 rfl rfl))) (fun _ h => h) rfl dM_stands_37 ?_
            refine lv_icmp_ge (tgt := 61) hx hb dM_stands_40 (by decide) (fun hc6 => ?_) (fun hc6 => ?_)
            · refine lv_iconst (v := 0) hx hb dM_stands_61 (by decide) ?_
              exact mm_zret (S := (th, ks, kc, rn, oc, hd, hs, se, bd, (nI b), dk, dp, ct, bo, wi, sh, lf, lc, mo, ah)) hx hb hr hlk dM_stands_62 (by first | decide | (subst_vars; decide)) hP hSS (by subst ex4 ex1; exact ⟨by rw [hF2]; rfl, rfl⟩)
            · exact absurd (show nI b ≤ nI (b - 0) from Int32.le_refl _) hc6
          | succ j ih =>
            intro    H locs ls hl hP hSS hj hF2
            refine lv_iload_n hx hb dM_stands_35 rfl (lv_at hl 0 rfl) ?_
            refine lv_aload_n hx hb dM_stands_36 rfl (lv_at hl 2 rfl) ?_
            refine va_get (D := g.1) (ci := 1) (v := .int (nI b)) (C := "HandTablesModel") (T := T_M) (N := 20) hx hb hts (fun w hw => wd_in (u_inM w hw)) hown hK hP 0 rfl rfl 9 (by decide) (hts _ (wd_in (gw_mem 466 rfl rfl))) (fun _ h => h) rfl dM_stands_37 ?_
            refine lv_icmp_ge (tgt := 61) hx hb dM_stands_40 (by decide) (fun hc7 => ?_) (fun hc7 => ?_)
            · exact absurd hc7 (nI_ge (by omega) (by omega))
            · refine lv_aload_n hx hb dM_stands_43 rfl (lv_at hl 2 rfl) ?_
              refine va_get (D := g.1) (ci := 1) (v := .ref (g.2.2 6)) (C := "HandTablesModel") (T := T_M) (N := 20) hx hb hts (fun w hw => wd_in (u_inM w hw)) hown hK hP 0 rfl rfl 8 (by decide) (hts _ (wd_in (gw_mem 465 rfl rfl))) (fun _ h => h) rfl dM_stands_44 ?_
              refine lv_iload_n hx hb dM_stands_47 rfl (lv_at hl 0 rfl) ?_
              refine va_iald hx hb hK hP 6 0 rfl rfl (vp_in_nI (by omega) (by omega)) dM_stands_48 ?_
              refine lv_iload_n hx hb dM_stands_49 rfl (lv_at hl 1 rfl) ?_
              refine lv_icmp_ne (tgt := 55) hx hb dM_stands_50 (by decide) (fun hc8 => ?_) (fun hc8 => ?_)
              · refine jv_iinc (a := 1) hx hb dM_stands_55 hl (k := 0) rfl (by decide) (by decide) (fun x9 ex9 ls hl => ?_)
                have hl : lv_has ls 4 [(3, .int x9), (1, .int k), (0, .ref (g.2.2 0))] := hl
                refine lv_goto (tgt := 35) hx hb dM_stands_58 (by decide) ?_
                rw [nI_up (by omega)] at ex9
                have hlB := lv_sub hl [0, 1, 2] rfl
                have hPB := hP
                have hSB := hSS
                subst ex9
                exact ih    _ _ _ hlB hPB hSB (by omega) (by rw [hF2]; simp only [kd_2, if_neg hc8])
              · refine lv_iconst (v := 1) hx hb dM_stands_53 (by decide) ?_
                exact mm_zret (S := (th, ks, kc, rn, oc, hd, hs, se, bd, (nI b), dk, dp, ct, bo, wi, sh, lf, lc, mo, ah)) hx hb hr hlk dM_stands_54 (by first | decide | (subst_vars; decide)) hP hSS (by subst ex4 ex1; exact ⟨by rw [hF2]; simp only [kd_2, if_pos hc8], rfl⟩)
        exact hloop b    _ _ ls (by have h9 := lv_sub hl [0, 2, 3] rfl; subst ex4; rw [Nat.sub_self]; exact h9) hP hSS (Nat.le_refl _) (by rw [hF]; rfl)
      · exact absurd (by decide) hc3
    | succ n ih =>
      intro    H locs ls hl hP hSS hn hF
      refine lv_iload_n hx hb dM_stands_2 rfl (lv_at hl 0 rfl) ?_
      refine lv_bipush (v := 12) hx hb dM_stands_3 (by decide) ?_
      refine lv_icmp_ge (tgt := 33) hx hb dM_stands_5 (by decide) (fun hc10 => ?_) (fun hc10 => ?_)
      · exact absurd hc10 (nI_ge (b := 12) (by omega) (by decide))
      · refine lv_aload_n hx hb dM_stands_8 rfl (lv_at hl 3 rfl) ?_
        refine va_get (D := g.1) (ci := 1) (v := .ref (g.2.2 5)) (C := "HandTablesModel") (T := T_M) (N := 20) hx hb hts (fun w hw => wd_in (u_inM w hw)) hown hK hP 0 rfl rfl 7 (by decide) (hts _ (wd_in (gw_mem 464 rfl rfl))) (fun _ h => h) rfl dM_stands_9 ?_
        refine lv_iload_n hx hb dM_stands_12 rfl (lv_at hl 0 rfl) ?_
        refine va_iald hx hb hK hP 5 0 rfl rfl (vp_in_nI (by omega) (by decide)) dM_stands_13 ?_
        refine lv_iload_n hx hb dM_stands_14 rfl (lv_at hl 2 rfl) ?_
        refine lv_icmp_ne (tgt := 27) hx hb dM_stands_15 (by decide) (fun hc11 => ?_) (fun hc11 => ?_)
        · refine jv_iinc (a := 1) hx hb dM_stands_27 hl (k := 0) rfl (by decide) (by decide) (fun x12 ex12 ls hl => ?_)
          have hl : lv_has ls 4 [(3, .int x12), (2, .int u), (1, .int k), (0, .ref (g.2.2 0))] := hl
          refine lv_goto (tgt := 2) hx hb dM_stands_30 (by decide) ?_
          rw [nI_up (by omega)] at ex12
          have hlB := lv_sub hl [0, 1, 2, 3] rfl
          have hPB := hP
          have hSB := hSS
          subst ex12
          exact ih    _ _ _ hlB hPB hSB (by omega) (by rw [hF]; simp only [kd_1, if_neg hc11])
        · refine lv_iload_n hx hb dM_stands_18 rfl (lv_at hl 0 rfl) ?_
          refine lv_iconst (v := 2) hx hb dM_stands_19 (by decide) ?_
          refine lv_idiv hx hb dM_stands_20 (by decide) ?_
          refine lv_iload_n hx hb dM_stands_21 rfl (lv_at hl 1 rfl) ?_
          refine lv_icmp_eq (tgt := 27) hx hb dM_stands_22 (by decide) (fun hc13 => ?_) (fun hc13 => ?_)
          · refine jv_iinc (a := 1) hx hb dM_stands_27 hl (k := 0) rfl (by decide) (by decide) (fun x14 ex14 ls hl => ?_)
            have hl : lv_has ls 4 [(3, .int x14), (2, .int u), (1, .int k), (0, .ref (g.2.2 0))] := hl
            refine lv_goto (tgt := 2) hx hb dM_stands_30 (by decide) ?_
            rw [nI_up (by omega)] at ex14
            have hlB := lv_sub hl [0, 1, 2, 3] rfl
            have hPB := hP
            have hSB := hSS
            subst ex14
            exact ih    _ _ _ hlB hPB hSB (by omega) (by rw [hF]; simp only [kd_1, if_pos hc11, if_pos hc13])
          · refine lv_iconst (v := 1) hx hb dM_stands_25 (by decide) ?_
            exact mm_zret (S := (th, ks, kc, rn, oc, hd, hs, se, bd, (nI b), dk, dp, ct, bo, wi, sh, lf, lc, mo, ah)) hx hb hr hlk dM_stands_26 (by first | decide | (subst_vars; decide)) hP hSS (by subst ex1; exact ⟨by rw [hF]; simp only [kd_1, if_pos hc11, if_neg hc13], rfl⟩)
  exact hloop 12    _ _ ls (by have h9 := lv_sub hl [0, 3, 2, 1] rfl; subst ex1; exact h9) hP hSS (by decide) rfl
set_option maxHeartbeats 4000000 in
set_option maxRecDepth 100000 in
theorem cM_seat (l : Launch) (g : mo_E) (th : Int32) (ks : Nat → Int32) (kc : Int32) (rn : Nat → Int32) (oc : Nat → Int32) (hd : Nat → Int32) (hs : Int32) (se : Nat → Int32) (bd : Nat → Int32) (b : Nat) (dk : Nat → Int32) (dp : Int32) (ct : Int32) (bo : Int32) (wi : Nat → Int32) (sh : Nat → Int32) (lf : Nat → Int32) (lc : Int32) (mo : Int32) (ah : Int32) (q : Int32) (k1 : Int32) (k2 : Int32)  (hap : mo_ap g) (hb5 : b ≤ 5) : mm_M l yM_seat bM_seat 4 (some .boolean) 1 [.ref (g.2.2 0), .int q, .int k1, .int k2] g (th, ks, kc, rn, oc, hd, hs, se, bd, (nI b), dk, dp, ct, bo, wi, sh, lf, lc, mo, ah) (fun v9 S9 => v9 = some (.int (k_seatV se bd b q k1 k2)) ∧ S9 = ((k_seatT q k1 k2), ks, kc, rn, oc, hd, hs, (if k_seatV se bd b q k1 k2 = 0 then se else (upd (upd se (2 * q).toNatClampNeg k1) (2 * q + 1).toNatClampNeg k2)), bd, (nI b), dk, dp, (if k_seatV se bd b q k1 k2 = 0 then ct else 0), bo, wi, sh, lf, lc, mo, ah)) := by
  refine Met.ofW (cc := bM_seat) (maxL := 4) (ret := (some .boolean)) (by decide) rfl ?_
  intro p e s m args below meth c s₁ BB hml hv
  obtain ⟨rfl, hB⟩ := hv
  have hx := BB.exec
  have hb := BB.bytes
  have hr := BB.returns
  have hlk := BB.notSynchronized
  have hts := atoms_spec (ws := wd yM_seat bM_seat 4 (some .boolean)) BB.pre
  have hown : s.vm.findClass "HandTablesModel" = some m.cls := findClass_of_methodNamed BB.named
  have hS : CallFix p m c bM_seat 4 s _ (wd yM_seat bM_seat 4 (some .boolean)) "HandTablesModel" := ⟨hx, hb, hml, hown, hts⟩
  obtain ⟨hP, hK⟩ := hB
  have hP : va_P g.1 cl_X (mo_V g th ks kc rn oc hd hs se bd (nI b) dk dp ct bo wi sh lf lc mo ah) s.heap := hP
  have hSS : va_S (mo_fr g) s.heap s.heap [] := va_S.rf
  have hl := lv_entry ([.ref (g.2.2 0), .int q, .int k1, .int k2]) (n := 4) (Nat.le_of_ble_eq_true rfl)
  rw [lg_entry_eq]
  generalize (lg_sl ([.ref (g.2.2 0), .int q, .int k1, .int k2]) ++ List.replicate (4 - (lg_sl ([.ref (g.2.2 0), .int q, .int k1, .int k2])).length) Slot.unset).toArray = ls at hl ⊢
  have hl : lv_has ls 4 [(0, .ref (g.2.2 0)), (1, .int q), (2, .int k1), (3, .int k2)] := hl
  obtain ⟨H, eH⟩ : ∃ H, s.heap = H := ⟨_, rfl⟩
  obtain ⟨locs, eL⟩ : ∃ L, ([] : List Loc) = L := ⟨_, rfl⟩
  have hP : va_P g.1 cl_X (mo_V g th ks kc rn oc hd hs se bd (nI b) dk dp ct bo wi sh lf lc mo ah) H := by rw [← eH]; exact hP
  have hSS : va_S (mo_fr g) s.heap H locs := by rw [← eH, ← eL]; exact hSS
  refine mm_go eH eL ?_
  clear eH eL
  refine lv_aload_n hx hb dM_seat_0 rfl (lv_at hl 0 rfl) ?_
  refine lv_iload_n hx hb dM_seat_1 rfl (lv_at hl 1 rfl) ?_
  refine pu_SH (cM_noSeat l _) rfl kM_M_noSeat hS ⟨Nat.le_of_ble_eq_true rfl, Nat.le_of_ble_eq_true rfl⟩ hl.1 rfl (Nat.le_of_ble_eq_true rfl) ⟨Nat.zero_le _, Nat.zero_le _⟩ dM_seat_2 ?_
  refine lv_if_eq (tgt := 12) hx hb dM_seat_5 (by decide) (fun hc1 => ?_) (fun hc1 => ?_)
  · refine lv_iload_n hx hb dM_seat_12 rfl (lv_at hl 2 rfl) ?_
    refine pu_SH (cM_noCard l _) rfl kM_M_noCard hS ⟨Nat.le_of_ble_eq_true rfl, Nat.le_of_ble_eq_true rfl⟩ hl.1 rfl (Nat.le_of_ble_eq_true rfl) ⟨Nat.zero_le _, Nat.zero_le _⟩ dM_seat_13 ?_
    refine lv_if_ne (tgt := 26) hx hb dM_seat_16 (by decide) (fun hc2 => ?_) (fun hc2 => ?_)
    · refine lv_iconst (v := 2) hx hb dM_seat_26 (by decide) ?_
      refine lv_goto (tgt := 31) hx hb dM_seat_27 (by decide) ?_
      refine va_put (D := g.1) (ci := 1) (v := .int 2) (ty := .int) (C := "HandTablesModel") (T := T_M) (N := 20) hx hb hts (fun w hw => wd_in (u_inM w hw)) tf_M tf_M_ok n_M hown hK hP (mo_D hap) hSS 0 rfl rfl 0 (by decide) (hts _ (wd_in (gw_mem 457 rfl rfl))) (fun _ h => h) rfl (by decide +kernel) rfl rfl (Nat.le_of_ble_eq_true rfl) dM_seat_31 (fun H locs hP _ hSS => ?_)
      have hP : va_P g.1 cl_X (mo_V g 2 ks kc rn oc hd hs se bd (nI b) dk dp ct bo wi sh lf lc mo ah) H := hP
      refine lv_aload_n hx hb dM_seat_34 rfl (lv_at hl 0 rfl) ?_
      refine va_get (D := g.1) (ci := 1) (v := .int 2) (C := "HandTablesModel") (T := T_M) (N := 20) hx hb hts (fun w hw => wd_in (u_inM w hw)) hown hK hP 0 rfl rfl 0 (by decide) (hts _ (wd_in (gw_mem 457 rfl rfl))) (fun _ h => h) rfl dM_seat_35 ?_
      refine lv_if_gt (tgt := 64) hx hb dM_seat_38 (by decide) (fun hc3 => ?_) (fun hc3 => ?_)
      rotate_left
      · first | exact absurd hc3 (by decide) | exact absurd (by decide) hc3
      refine lv_iconst (v := 0) hx hb dM_seat_64 (by decide) ?_
      exact mm_zret (S := (2, ks, kc, rn, oc, hd, hs, se, bd, (nI b), dk, dp, ct, bo, wi, sh, lf, lc, mo, ah)) hx hb hr hlk dM_seat_65 (by first | decide | (subst_vars; decide)) hP hSS (by exact ⟨by (try simp only [k_seatV, k_seatT, if_pos hc1, if_neg hc2]) <;> rfl, by (try simp only [k_seatV, k_seatT, if_pos hc1, if_neg hc2]) <;> rfl⟩)
    · refine lv_iload_n hx hb dM_seat_19 rfl (lv_at hl 3 rfl) ?_
      refine pu_SH (cM_noCard l _) rfl kM_M_noCard hS ⟨Nat.le_of_ble_eq_true rfl, Nat.le_of_ble_eq_true rfl⟩ hl.1 rfl (Nat.le_of_ble_eq_true rfl) ⟨Nat.zero_le _, Nat.zero_le _⟩ dM_seat_20 ?_
      refine lv_if_eq (tgt := 30) hx hb dM_seat_23 (by decide) (fun hc4 => ?_) (fun hc4 => ?_)
      · refine lv_iconst (v := 0) hx hb dM_seat_30 (by decide) ?_
        refine va_put (D := g.1) (ci := 1) (v := .int 0) (ty := .int) (C := "HandTablesModel") (T := T_M) (N := 20) hx hb hts (fun w hw => wd_in (u_inM w hw)) tf_M tf_M_ok n_M hown hK hP (mo_D hap) hSS 0 rfl rfl 0 (by decide) (hts _ (wd_in (gw_mem 457 rfl rfl))) (fun _ h => h) rfl (by decide +kernel) rfl rfl (Nat.le_of_ble_eq_true rfl) dM_seat_31 (fun H locs hP _ hSS => ?_)
        have hP : va_P g.1 cl_X (mo_V g 0 ks kc rn oc hd hs se bd (nI b) dk dp ct bo wi sh lf lc mo ah) H := hP
        refine lv_aload_n hx hb dM_seat_34 rfl (lv_at hl 0 rfl) ?_
        refine va_get (D := g.1) (ci := 1) (v := .int 0) (C := "HandTablesModel") (T := T_M) (N := 20) hx hb hts (fun w hw => wd_in (u_inM w hw)) hown hK hP 0 rfl rfl 0 (by decide) (hts _ (wd_in (gw_mem 457 rfl rfl))) (fun _ h => h) rfl dM_seat_35 ?_
        refine lv_if_gt (tgt := 64) hx hb dM_seat_38 (by decide) (fun hc5 => ?_) (fun hc5 => ?_)
        · first | exact absurd hc5 (by decide) | exact absurd (by decide) hc5
        refine lv_iload_n hx hb dM_seat_41 rfl (lv_at hl 2 rfl) ?_
        refine lv_iload_n hx hb dM_seat_42 rfl (lv_at hl 3 rfl) ?_
        refine lv_icmp_eq (tgt := 64) hx hb dM_seat_43 (by decide) (fun hc6 => ?_) (fun hc6 => ?_)
        · refine lv_iconst (v := 0) hx hb dM_seat_64 (by decide) ?_
          exact mm_zret (S := (0, ks, kc, rn, oc, hd, hs, se, bd, (nI b), dk, dp, ct, bo, wi, sh, lf, lc, mo, ah)) hx hb hr hlk dM_seat_65 (by first | decide | (subst_vars; decide)) hP hSS (by exact ⟨by (try simp only [k_seatV, k_seatT, if_pos hc1, if_pos hc2, if_pos hc4, if_pos hc6]) <;> rfl, by (try simp only [k_seatV, k_seatT, if_pos hc1, if_pos hc2, if_pos hc4, if_pos hc6]) <;> rfl⟩)
        · refine lv_aload_n hx hb dM_seat_46 rfl (lv_at hl 0 rfl) ?_
          refine lv_iload_n hx hb dM_seat_47 rfl (lv_at hl 2 rfl) ?_
          refine lv_iload_n hx hb dM_seat_48 rfl (lv_at hl 1 rfl) ?_
          refine mm_V (cM_stands l g 0 ks kc rn oc hd hs se bd b dk dp ct bo wi sh lf lc mo ah k1 q hap hb5) rfl kM_M_stands hS hK hP ⟨Nat.le_of_ble_eq_true rfl, Nat.le_of_ble_eq_true rfl⟩ hl.1 rfl (Nat.le_of_ble_eq_true rfl) ⟨Nat.zero_le _, Nat.zero_le _⟩ dM_seat_49 hSS (fun v9 S9 H locs hR hP hSS => ?_)
          obtain ⟨rfl, rfl⟩ := hR
          have hP : va_P g.1 cl_X (mo_V g 0 ks kc rn oc hd hs se bd (nI b) dk dp ct bo wi sh lf lc mo ah) H := hP
          refine lv_if_ne (tgt := 64) hx hb dM_seat_52 (by decide) (fun hc7 => ?_) (fun hc7 => ?_)
          · refine lv_iconst (v := 0) hx hb dM_seat_64 (by decide) ?_
            exact mm_zret (S := (0, ks, kc, rn, oc, hd, hs, se, bd, (nI b), dk, dp, ct, bo, wi, sh, lf, lc, mo, ah)) hx hb hr hlk dM_seat_65 (by first | decide | (subst_vars; decide)) hP hSS (by exact ⟨by (try simp only [k_seatV, k_seatT, if_pos hc1, if_pos hc2, if_pos hc4, if_neg hc6, if_neg hc7]) <;> rfl, by (try simp only [k_seatV, k_seatT, if_pos hc1, if_pos hc2, if_pos hc4, if_neg hc6, if_neg hc7]) <;> rfl⟩)
          · refine lv_aload_n hx hb dM_seat_55 rfl (lv_at hl 0 rfl) ?_
            refine lv_iload_n hx hb dM_seat_56 rfl (lv_at hl 3 rfl) ?_
            refine lv_iload_n hx hb dM_seat_57 rfl (lv_at hl 1 rfl) ?_
            refine mm_V (cM_stands l g 0 ks kc rn oc hd hs se bd b dk dp ct bo wi sh lf lc mo ah k2 q hap hb5) rfl kM_M_stands hS hK hP ⟨Nat.le_of_ble_eq_true rfl, Nat.le_of_ble_eq_true rfl⟩ hl.1 rfl (Nat.le_of_ble_eq_true rfl) ⟨Nat.zero_le _, Nat.zero_le _⟩ dM_seat_58 hSS (fun v9 S9 H locs hR hP hSS => ?_)
            obtain ⟨rfl, rfl⟩ := hR
            have hP : va_P g.1 cl_X (mo_V g 0 ks kc rn oc hd hs se bd (nI b) dk dp ct bo wi sh lf lc mo ah) H := hP
            refine lv_if_eq (tgt := 66) hx hb dM_seat_61 (by decide) (fun hc8 => ?_) (fun hc8 => ?_)
            · refine lv_aload_n hx hb dM_seat_66 rfl (lv_at hl 0 rfl) ?_
              refine va_get (D := g.1) (ci := 1) (v := .ref (g.2.2 5)) (C := "HandTablesModel") (T := T_M) (N := 20) hx hb hts (fun w hw => wd_in (u_inM w hw)) hown hK hP 0 rfl rfl 7 (by decide) (hts _ (wd_in (gw_mem 464 rfl rfl))) (fun _ h => h) rfl dM_seat_67 ?_
              refine lv_iconst (v := 2) hx hb dM_seat_70 (by decide) ?_
              refine lv_iload_n hx hb dM_seat_71 rfl (lv_at hl 1 rfl) ?_
              refine lv_imul hx hb dM_seat_72 ?_
              refine lv_iload_n hx hb dM_seat_73 rfl (lv_at hl 2 rfl) ?_
              refine va_iast (x := k1) hx hb hK hP (mo_D hap) hSS 5 0 rfl rfl (k_s2 hc1).1 dM_seat_74 (fun H locs hP _ hSS => ?_)
              have hP : va_P g.1 cl_X (mo_V g 0 ks kc rn oc hd hs (upd se ((2 * q) : Int32).toNatClampNeg k1) bd (nI b) dk dp ct bo wi sh lf lc mo ah) H := hP
              refine lv_aload_n hx hb dM_seat_75 rfl (lv_at hl 0 rfl) ?_
              refine va_get (D := g.1) (ci := 1) (v := .ref (g.2.2 5)) (C := "HandTablesModel") (T := T_M) (N := 20) hx hb hts (fun w hw => wd_in (u_inM w hw)) hown hK hP 0 rfl rfl 7 (by decide) (hts _ (wd_in (gw_mem 464 rfl rfl))) (fun _ h => h) rfl dM_seat_76 ?_
              refine lv_iconst (v := 2) hx hb dM_seat_79 (by decide) ?_
              refine lv_iload_n hx hb dM_seat_80 rfl (lv_at hl 1 rfl) ?_
              refine lv_imul hx hb dM_seat_81 ?_
              refine lv_iconst (v := 1) hx hb dM_seat_82 (by decide) ?_
              refine lv_iadd hx hb dM_seat_83 ?_
              refine lv_iload_n hx hb dM_seat_84 rfl (lv_at hl 3 rfl) ?_
              refine va_iast (x := k2) hx hb hK hP (mo_D hap) hSS 5 0 rfl rfl (k_s2 hc1).2.1 dM_seat_85 (fun H locs hP _ hSS => ?_)
              have hP : va_P g.1 cl_X (mo_V g 0 ks kc rn oc hd hs (upd (upd se ((2 * q) : Int32).toNatClampNeg k1) (((2 * q) + 1) : Int32).toNatClampNeg k2) bd (nI b) dk dp ct bo wi sh lf lc mo ah) H := hP
              refine lv_aload_n hx hb dM_seat_86 rfl (lv_at hl 0 rfl) ?_
              refine lv_iconst (v := 0) hx hb dM_seat_87 (by decide) ?_
              refine va_put (D := g.1) (ci := 1) (v := .int 0) (ty := .boolean) (C := "HandTablesModel") (T := T_M) (N := 20) hx hb hts (fun w hw => wd_in (u_inM w hw)) tf_M tf_M_ok n_M hown hK hP (mo_D hap) hSS 0 rfl rfl 12 (by decide) (hts _ (wd_in (gw_mem 469 rfl rfl))) (fun _ h => h) rfl (by decide +kernel) rfl rfl (Nat.le_of_ble_eq_true rfl) dM_seat_88 (fun H locs hP _ hSS => ?_)
              have hP : va_P g.1 cl_X (mo_V g 0 ks kc rn oc hd hs (upd (upd se ((2 * q) : Int32).toNatClampNeg k1) (((2 * q) + 1) : Int32).toNatClampNeg k2) bd (nI b) dk dp 0 bo wi sh lf lc mo ah) H := hP
              refine lv_iconst (v := 1) hx hb dM_seat_91 (by decide) ?_
              exact mm_zret (S := (0, ks, kc, rn, oc, hd, hs, (upd (upd se ((2 * q) : Int32).toNatClampNeg k1) (((2 * q) + 1) : Int32).toNatClampNeg k2), bd, (nI b), dk, dp, 0, bo, wi, sh, lf, lc, mo, ah)) hx hb hr hlk dM_seat_92 (by first | decide | (subst_vars; decide)) hP hSS (by exact ⟨by (try simp only [k_seatV, k_seatT, if_pos hc1, if_pos hc2, if_pos hc4, if_neg hc6, if_pos hc7, if_pos hc8]) <;> rfl, by (try simp only [k_seatV, k_seatT, if_pos hc1, if_pos hc2, if_pos hc4, if_neg hc6, if_pos hc7, if_pos hc8]) <;> rfl⟩)
            · refine lv_iconst (v := 0) hx hb dM_seat_64 (by decide) ?_
              exact mm_zret (S := (0, ks, kc, rn, oc, hd, hs, se, bd, (nI b), dk, dp, ct, bo, wi, sh, lf, lc, mo, ah)) hx hb hr hlk dM_seat_65 (by first | decide | (subst_vars; decide)) hP hSS (by exact ⟨by (try simp only [k_seatV, k_seatT, if_pos hc1, if_pos hc2, if_pos hc4, if_neg hc6, if_pos hc7, if_neg hc8]) <;> rfl, by (try simp only [k_seatV, k_seatT, if_pos hc1, if_pos hc2, if_pos hc4, if_neg hc6, if_pos hc7, if_neg hc8]) <;> rfl⟩)
      · refine lv_iconst (v := 2) hx hb dM_seat_26 (by decide) ?_
        refine lv_goto (tgt := 31) hx hb dM_seat_27 (by decide) ?_
        refine va_put (D := g.1) (ci := 1) (v := .int 2) (ty := .int) (C := "HandTablesModel") (T := T_M) (N := 20) hx hb hts (fun w hw => wd_in (u_inM w hw)) tf_M tf_M_ok n_M hown hK hP (mo_D hap) hSS 0 rfl rfl 0 (by decide) (hts _ (wd_in (gw_mem 457 rfl rfl))) (fun _ h => h) rfl (by decide +kernel) rfl rfl (Nat.le_of_ble_eq_true rfl) dM_seat_31 (fun H locs hP _ hSS => ?_)
        have hP : va_P g.1 cl_X (mo_V g 2 ks kc rn oc hd hs se bd (nI b) dk dp ct bo wi sh lf lc mo ah) H := hP
        refine lv_aload_n hx hb dM_seat_34 rfl (lv_at hl 0 rfl) ?_
        refine va_get (D := g.1) (ci := 1) (v := .int 2) (C := "HandTablesModel") (T := T_M) (N := 20) hx hb hts (fun w hw => wd_in (u_inM w hw)) hown hK hP 0 rfl rfl 0 (by decide) (hts _ (wd_in (gw_mem 457 rfl rfl))) (fun _ h => h) rfl dM_seat_35 ?_
        refine lv_if_gt (tgt := 64) hx hb dM_seat_38 (by decide) (fun hc9 => ?_) (fun hc9 => ?_)
        rotate_left
        · first | exact absurd hc9 (by decide) | exact absurd (by decide) hc9
        refine lv_iconst (v := 0) hx hb dM_seat_64 (by decide) ?_
        exact mm_zret (S := (2, ks, kc, rn, oc, hd, hs, se, bd, (nI b), dk, dp, ct, bo, wi, sh, lf, lc, mo, ah)) hx hb hr hlk dM_seat_65 (by first | decide | (subst_vars; decide)) hP hSS (by exact ⟨by (try simp only [k_seatV, k_seatT, if_pos hc1, if_pos hc2, if_neg hc4]) <;> rfl, by (try simp only [k_seatV, k_seatT, if_pos hc1, if_pos hc2, if_neg hc4]) <;> rfl⟩)
  · refine lv_iconst (v := 1) hx hb dM_seat_8 (by decide) ?_
    refine lv_goto (tgt := 31) hx hb dM_seat_9 (by decide) ?_
    refine va_put (D := g.1) (ci := 1) (v := .int 1) (ty := .int) (C := "HandTablesModel") (T := T_M) (N := 20) hx hb hts (fun w hw => wd_in (u_inM w hw)) tf_M tf_M_ok n_M hown hK hP (mo_D hap) hSS 0 rfl rfl 0 (by decide) (hts _ (wd_in (gw_mem 457 rfl rfl))) (fun _ h => h) rfl (by decide +kernel) rfl rfl (Nat.le_of_ble_eq_true rfl) dM_seat_31 (fun H locs hP _ hSS => ?_)
    have hP : va_P g.1 cl_X (mo_V g 1 ks kc rn oc hd hs se bd (nI b) dk dp ct bo wi sh lf lc mo ah) H := hP
    refine lv_aload_n hx hb dM_seat_34 rfl (lv_at hl 0 rfl) ?_
    refine va_get (D := g.1) (ci := 1) (v := .int 1) (C := "HandTablesModel") (T := T_M) (N := 20) hx hb hts (fun w hw => wd_in (u_inM w hw)) hown hK hP 0 rfl rfl 0 (by decide) (hts _ (wd_in (gw_mem 457 rfl rfl))) (fun _ h => h) rfl dM_seat_35 ?_
    refine lv_if_gt (tgt := 64) hx hb dM_seat_38 (by decide) (fun hc10 => ?_) (fun hc10 => ?_)
    rotate_left
    · first | exact absurd hc10 (by decide) | exact absurd (by decide) hc10
    refine lv_iconst (v := 0) hx hb dM_seat_64 (by decide) ?_
    exact mm_zret (S := (1, ks, kc, rn, oc, hd, hs, se, bd, (nI b), dk, dp, ct, bo, wi, sh, lf, lc, mo, ah)) hx hb hr hlk dM_seat_65 (by first | decide | (subst_vars; decide)) hP hSS (by exact ⟨by (try simp only [k_seatV, k_seatT, if_neg hc1]) <;> rfl, by (try simp only [k_seatV, k_seatT, if_neg hc1]) <;> rfl⟩)
set_option maxHeartbeats 4000000 in
set_option maxRecDepth 100000 in
theorem cM_leave (l : Launch) (g : mo_E) (th : Int32) (ks : Nat → Int32) (kc : Int32) (rn : Nat → Int32) (oc : Nat → Int32) (hd : Nat → Int32) (hs : Int32) (se : Nat → Int32) (bd : Nat → Int32) (bs : Int32) (dk : Nat → Int32) (dp : Int32) (ct : Int32) (bo : Int32) (wi : Nat → Int32) (sh : Nat → Int32) (lf : Nat → Int32) (lc : Int32) (mo : Int32) (ah : Int32) (q : Int32)  (hap : mo_ap g)  : mm_M l yM_leave bM_leave 2 (some .boolean) 1 [.ref (g.2.2 0), .int q] g (th, ks, kc, rn, oc, hd, hs, se, bd, bs, dk, dp, ct, bo, wi, sh, lf, lc, mo, ah) (fun v9 S9 => v9 = some (.int (k_leaveV se q)) ∧ S9 = ((if m_noSeat q = 0 then 0 else 1), ks, kc, rn, oc, hd, hs, (if k_leaveV se q = 0 then se else (upd (upd se (2 * q).toNatClampNeg (-1)) (2 * q + 1).toNatClampNeg (-1))), bd, bs, dk, dp, (if k_leaveV se q = 0 then ct else 0), bo, wi, sh, lf, lc, mo, ah)) := by
  refine Met.ofW (cc := bM_leave) (maxL := 2) (ret := (some .boolean)) (by decide) rfl ?_
  intro p e s m args below meth c s₁ BB hml hv
  obtain ⟨rfl, hB⟩ := hv
  have hx := BB.exec
  have hb := BB.bytes
  have hr := BB.returns
  have hlk := BB.notSynchronized
  have hts := atoms_spec (ws := wd yM_leave bM_leave 2 (some .boolean)) BB.pre
  have hown : s.vm.findClass "HandTablesModel" = some m.cls := findClass_of_methodNamed BB.named
  have hS : CallFix p m c bM_leave 2 s _ (wd yM_leave bM_leave 2 (some .boolean)) "HandTablesModel" := ⟨hx, hb, hml, hown, hts⟩
  obtain ⟨hP, hK⟩ := hB
  have hP : va_P g.1 cl_X (mo_V g th ks kc rn oc hd hs se bd bs dk dp ct bo wi sh lf lc mo ah) s.heap := hP
  have hSS : va_S (mo_fr g) s.heap s.heap [] := va_S.rf
  have hl := lv_entry ([.ref (g.2.2 0), .int q]) (n := 2) (Nat.le_of_ble_eq_true rfl)
  rw [lg_entry_eq]
  generalize (lg_sl ([.ref (g.2.2 0), .int q]) ++ List.replicate (2 - (lg_sl ([.ref (g.2.2 0), .int q])).length) Slot.unset).toArray = ls at hl ⊢
  have hl : lv_has ls 2 [(0, .ref (g.2.2 0)), (1, .int q)] := hl
  obtain ⟨H, eH⟩ : ∃ H, s.heap = H := ⟨_, rfl⟩
  obtain ⟨locs, eL⟩ : ∃ L, ([] : List Loc) = L := ⟨_, rfl⟩
  have hP : va_P g.1 cl_X (mo_V g th ks kc rn oc hd hs se bd bs dk dp ct bo wi sh lf lc mo ah) H := by rw [← eH]; exact hP
  have hSS : va_S (mo_fr g) s.heap H locs := by rw [← eH, ← eL]; exact hSS
  refine mm_go eH eL ?_
  clear eH eL
  refine lv_aload_n hx hb dM_leave_0 rfl (lv_at hl 0 rfl) ?_
  refine lv_iload_n hx hb dM_leave_1 rfl (lv_at hl 1 rfl) ?_
  refine pu_SH (cM_noSeat l _) rfl kM_M_noSeat hS ⟨Nat.le_of_ble_eq_true rfl, Nat.le_of_ble_eq_true rfl⟩ hl.1 rfl (Nat.le_of_ble_eq_true rfl) ⟨Nat.zero_le _, Nat.zero_le _⟩ dM_leave_2 ?_
  refine lv_if_eq (tgt := 12) hx hb dM_leave_5 (by decide) (fun hc1 => ?_) (fun hc1 => ?_)
  · refine lv_iconst (v := 0) hx hb dM_leave_12 (by decide) ?_
    refine va_put (D := g.1) (ci := 1) (v := .int 0) (ty := .int) (C := "HandTablesModel") (T := T_M) (N := 20) hx hb hts (fun w hw => wd_in (u_inM w hw)) tf_M tf_M_ok n_M hown hK hP (mo_D hap) hSS 0 rfl rfl 0 (by decide) (hts _ (wd_in (gw_mem 457 rfl rfl))) (fun _ h => h) rfl (by decide +kernel) rfl rfl (Nat.le_of_ble_eq_true rfl) dM_leave_13 (fun H locs hP _ hSS => ?_)
    have hP : va_P g.1 cl_X (mo_V g 0 ks kc rn oc hd hs se bd bs dk dp ct bo wi sh lf lc mo ah) H := hP
    refine lv_aload_n hx hb dM_leave_16 rfl (lv_at hl 0 rfl) ?_
    refine va_get (D := g.1) (ci := 1) (v := .int 0) (C := "HandTablesModel") (T := T_M) (N := 20) hx hb hts (fun w hw => wd_in (u_inM w hw)) hown hK hP 0 rfl rfl 0 (by decide) (hts _ (wd_in (gw_mem 457 rfl rfl))) (fun _ h => h) rfl dM_leave_17 ?_
    refine lv_if_gt (tgt := 35) hx hb dM_leave_20 (by decide) (fun hc2 => ?_) (fun hc2 => ?_)
    · first | exact absurd hc2 (by decide) | exact absurd (by decide) hc2
    refine lv_aload_n hx hb dM_leave_23 rfl (lv_at hl 0 rfl) ?_
    refine va_get (D := g.1) (ci := 1) (v := .ref (g.2.2 5)) (C := "HandTablesModel") (T := T_M) (N := 20) hx hb hts (fun w hw => wd_in (u_inM w hw)) hown hK hP 0 rfl rfl 7 (by decide) (hts _ (wd_in (gw_mem 464 rfl rfl))) (fun _ h => h) rfl dM_leave_24 ?_
    refine lv_iconst (v := 2) hx hb dM_leave_27 (by decide) ?_
    refine lv_iload_n hx hb dM_leave_28 rfl (lv_at hl 1 rfl) ?_
    refine lv_imul hx hb dM_leave_29 ?_
    refine va_iald hx hb hK hP 5 0 rfl rfl (k_s2 hc1).1 dM_leave_30 ?_
    refine lv_iconst (v := (-1)) hx hb dM_leave_31 (by decide) ?_
    refine lv_icmp_ne (tgt := 37) hx hb dM_leave_32 (by decide) (fun hc3 => ?_) (fun hc3 => ?_)
    · refine lv_aload_n hx hb dM_leave_37 rfl (lv_at hl 0 rfl) ?_
      refine va_get (D := g.1) (ci := 1) (v := .ref (g.2.2 5)) (C := "HandTablesModel") (T := T_M) (N := 20) hx hb hts (fun w hw => wd_in (u_inM w hw)) hown hK hP 0 rfl rfl 7 (by decide) (hts _ (wd_in (gw_mem 464 rfl rfl))) (fun _ h => h) rfl dM_leave_38 ?_
      refine lv_iconst (v := 2) hx hb dM_leave_41 (by decide) ?_
      refine lv_iload_n hx hb dM_leave_42 rfl (lv_at hl 1 rfl) ?_
      refine lv_imul hx hb dM_leave_43 ?_
      refine lv_iconst (v := (-1)) hx hb dM_leave_44 (by decide) ?_
      refine va_iast (x := (-1)) hx hb hK hP (mo_D hap) hSS 5 0 rfl rfl (k_s2 hc1).1 dM_leave_45 (fun H locs hP _ hSS => ?_)
      have hP : va_P g.1 cl_X (mo_V g 0 ks kc rn oc hd hs (upd se ((2 * q) : Int32).toNatClampNeg (-1)) bd bs dk dp ct bo wi sh lf lc mo ah) H := hP
      refine lv_aload_n hx hb dM_leave_46 rfl (lv_at hl 0 rfl) ?_
      refine va_get (D := g.1) (ci := 1) (v := .ref (g.2.2 5)) (C := "HandTablesModel") (T := T_M) (N := 20) hx hb hts (fun w hw => wd_in (u_inM w hw)) hown hK hP 0 rfl rfl 7 (by decide) (hts _ (wd_in (gw_mem 464 rfl rfl))) (fun _ h => h) rfl dM_leave_47 ?_
      refine lv_iconst (v := 2) hx hb dM_leave_50 (by decide) ?_
      refine lv_iload_n hx hb dM_leave_51 rfl (lv_at hl 1 rfl) ?_
      refine lv_imul hx hb dM_leave_52 ?_
      refine lv_iconst (v := 1) hx hb dM_leave_53 (by decide) ?_
      refine lv_iadd hx hb dM_leave_54 ?_
      refine lv_iconst (v := (-1)) hx hb dM_leave_55 (by decide) ?_
      refine va_iast (x := (-1)) hx hb hK hP (mo_D hap) hSS 5 0 rfl rfl (k_s2 hc1).2.1 dM_leave_56 (fun H locs hP _ hSS => ?_)
      have hP : va_P g.1 cl_X (mo_V g 0 ks kc rn oc hd hs (upd (upd se ((2 * q) : Int32).toNatClampNeg (-1)) (((2 * q) + 1) : Int32).toNatClampNeg (-1)) bd bs dk dp ct bo wi sh lf lc mo ah) H := hP
      refine lv_aload_n hx hb dM_leave_57 rfl (lv_at hl 0 rfl) ?_
      refine lv_iconst (v := 0) hx hb dM_leave_58 (by decide) ?_
      refine va_put (D := g.1) (ci := 1) (v := .int 0) (ty := .boolean) (C := "HandTablesModel") (T := T_M) (N := 20) hx hb hts (fun w hw => wd_in (u_inM w hw)) tf_M tf_M_ok n_M hown hK hP (mo_D hap) hSS 0 rfl rfl 12 (by decide) (hts _ (wd_in (gw_mem 469 rfl rfl))) (fun _ h => h) rfl (by decide +kernel) rfl rfl (Nat.le_of_ble_eq_true rfl) dM_leave_59 (fun H locs hP _ hSS => ?_)
      have hP : va_P g.1 cl_X (mo_V g 0 ks kc rn oc hd hs (upd (upd se ((2 * q) : Int32).toNatClampNeg (-1)) (((2 * q) + 1) : Int32).toNatClampNeg (-1)) bd bs dk dp 0 bo wi sh lf lc mo ah) H := hP
      refine lv_iconst (v := 1) hx hb dM_leave_62 (by decide) ?_
      exact mm_zret (S := (0, ks, kc, rn, oc, hd, hs, (upd (upd se ((2 * q) : Int32).toNatClampNeg (-1)) (((2 * q) + 1) : Int32).toNatClampNeg (-1)), bd, bs, dk, dp, 0, bo, wi, sh, lf, lc, mo, ah)) hx hb hr hlk dM_leave_63 (by first | decide | (subst_vars; decide)) hP hSS (by exact ⟨by (try simp only [k_leaveV, if_pos hc1, if_neg hc3]) <;> rfl, by (try simp only [k_leaveV, if_pos hc1, if_neg hc3]) <;> rfl⟩)
    · refine lv_iconst (v := 0) hx hb dM_leave_35 (by decide) ?_
      exact mm_zret (S := (0, ks, kc, rn, oc, hd, hs, se, bd, bs, dk, dp, ct, bo, wi, sh, lf, lc, mo, ah)) hx hb hr hlk dM_leave_36 (by first | decide | (subst_vars; decide)) hP hSS (by exact ⟨by (try simp only [k_leaveV, if_pos hc1, if_pos hc3]) <;> rfl, by (try simp only [k_leaveV, if_pos hc1, if_pos hc3]) <;> rfl⟩)
  · refine lv_iconst (v := 1) hx hb dM_leave_8 (by decide) ?_
    refine lv_goto (tgt := 13) hx hb dM_leave_9 (by decide) ?_
    refine va_put (D := g.1) (ci := 1) (v := .int 1) (ty := .int) (C := "HandTablesModel") (T := T_M) (N := 20) hx hb hts (fun w hw => wd_in (u_inM w hw)) tf_M tf_M_ok n_M hown hK hP (mo_D hap) hSS 0 rfl rfl 0 (by decide) (hts _ (wd_in (gw_mem 457 rfl rfl))) (fun _ h => h) rfl (by decide +kernel) rfl rfl (Nat.le_of_ble_eq_true rfl) dM_leave_13 (fun H locs hP _ hSS => ?_)
    have hP : va_P g.1 cl_X (mo_V g 1 ks kc rn oc hd hs se bd bs dk dp ct bo wi sh lf lc mo ah) H := hP
    refine lv_aload_n hx hb dM_leave_16 rfl (lv_at hl 0 rfl) ?_
    refine va_get (D := g.1) (ci := 1) (v := .int 1) (C := "HandTablesModel") (T := T_M) (N := 20) hx hb hts (fun w hw => wd_in (u_inM w hw)) hown hK hP 0 rfl rfl 0 (by decide) (hts _ (wd_in (gw_mem 457 rfl rfl))) (fun _ h => h) rfl dM_leave_17 ?_
    refine lv_if_gt (tgt := 35) hx hb dM_leave_20 (by decide) (fun hc4 => ?_) (fun hc4 => ?_)
    rotate_left
    · first | exact absurd hc4 (by decide) | exact absurd (by decide) hc4
    refine lv_iconst (v := 0) hx hb dM_leave_35 (by decide) ?_
    exact mm_zret (S := (1, ks, kc, rn, oc, hd, hs, se, bd, bs, dk, dp, ct, bo, wi, sh, lf, lc, mo, ah)) hx hb hr hlk dM_leave_36 (by first | decide | (subst_vars; decide)) hP hSS (by exact ⟨by (try simp only [k_leaveV, if_neg hc1]) <;> rfl, by (try simp only [k_leaveV, if_neg hc1]) <;> rfl⟩)
theorem k_b5 {b : Nat} (h : b ≤ 5) (h5 : ¬ nI b = 5) : vp_in (nI b) 5 := by
  have : b ≠ 5 := fun z => h5 (by rw [z]; rfl)
  exact vp_in_nI (by omega) (by decide)
set_option maxHeartbeats 4000000 in
set_option maxRecDepth 100000 in
theorem cM_board (l : Launch) (g : mo_E) (th : Int32) (ks : Nat → Int32) (kc : Int32) (rn : Nat → Int32) (oc : Nat → Int32) (hd : Nat → Int32) (hs : Int32) (se : Nat → Int32) (bd : Nat → Int32) (b : Nat) (dk : Nat → Int32) (dp : Int32) (ct : Int32) (bo : Int32) (wi : Nat → Int32) (sh : Nat → Int32) (lf : Nat → Int32) (lc : Int32) (mo : Int32) (ah : Int32) (k : Int32)  (hap : mo_ap g) (hb5 : b ≤ 5) : mm_M l yM_board bM_board 2 (some .int) 1 [.ref (g.2.2 0), .int k] g (th, ks, kc, rn, oc, hd, hs, se, bd, (nI b), dk, dp, ct, bo, wi, sh, lf, lc, mo, ah) (fun v9 S9 => v9 = some (.int (k_boardV se bd b k)) ∧ S9 = ((if m_noCard k = 0 then 0 else 1), ks, kc, rn, oc, hd, hs, se, (if k_boardC se bd b k = 0 then bd else upd bd (nI b).toNatClampNeg k), (if k_boardC se bd b k = 0 then nI b else nI b + 1), dk, dp, (if k_boardC se bd b k = 0 then ct else 0), bo, wi, sh, lf, lc, mo, ah)) := by
  refine Met.ofW (cc := bM_board) (maxL := 2) (ret := (some .int)) (by decide) rfl ?_
  intro p e s m args below meth c s₁ BB hml hv
  obtain ⟨rfl, hB⟩ := hv
  have hx := BB.exec
  have hb := BB.bytes
  have hr := BB.returns
  have hlk := BB.notSynchronized
  have hts := atoms_spec (ws := wd yM_board bM_board 2 (some .int)) BB.pre
  have hown : s.vm.findClass "HandTablesModel" = some m.cls := findClass_of_methodNamed BB.named
  have hS : CallFix p m c bM_board 2 s _ (wd yM_board bM_board 2 (some .int)) "HandTablesModel" := ⟨hx, hb, hml, hown, hts⟩
  obtain ⟨hP, hK⟩ := hB
  have hP : va_P g.1 cl_X (mo_V g th ks kc rn oc hd hs se bd (nI b) dk dp ct bo wi sh lf lc mo ah) s.heap := hP
  have hSS : va_S (mo_fr g) s.heap s.heap [] := va_S.rf
  have hl := lv_entry ([.ref (g.2.2 0), .int k]) (n := 2) (Nat.le_of_ble_eq_true rfl)
  rw [lg_entry_eq]
  generalize (lg_sl ([.ref (g.2.2 0), .int k]) ++ List.replicate (2 - (lg_sl ([.ref (g.2.2 0), .int k])).length) Slot.unset).toArray = ls at hl ⊢
  have hl : lv_has ls 2 [(0, .ref (g.2.2 0)), (1, .int k)] := hl
  obtain ⟨H, eH⟩ : ∃ H, s.heap = H := ⟨_, rfl⟩
  obtain ⟨locs, eL⟩ : ∃ L, ([] : List Loc) = L := ⟨_, rfl⟩
  have hP : va_P g.1 cl_X (mo_V g th ks kc rn oc hd hs se bd (nI b) dk dp ct bo wi sh lf lc mo ah) H := by rw [← eH]; exact hP
  have hSS : va_S (mo_fr g) s.heap H locs := by rw [← eH, ← eL]; exact hSS
  refine mm_go eH eL ?_
  clear eH eL
  refine lv_aload_n hx hb dM_board_0 rfl (lv_at hl 0 rfl) ?_
  refine lv_iload_n hx hb dM_board_1 rfl (lv_at hl 1 rfl) ?_
  refine pu_SH (cM_noCard l _) rfl kM_M_noCard hS ⟨Nat.le_of_ble_eq_true rfl, Nat.le_of_ble_eq_true rfl⟩ hl.1 rfl (Nat.le_of_ble_eq_true rfl) ⟨Nat.zero_le _, Nat.zero_le _⟩ dM_board_2 ?_
  refine lv_if_eq (tgt := 12) hx hb dM_board_5 (by decide) (fun hc1 => ?_) (fun hc1 => ?_)
  · refine lv_iconst (v := 0) hx hb dM_board_12 (by decide) ?_
    refine va_put (D := g.1) (ci := 1) (v := .int 0) (ty := .int) (C := "HandTablesModel") (T := T_M) (N := 20) hx hb hts (fun w hw => wd_in (u_inM w hw)) tf_M tf_M_ok n_M hown hK hP (mo_D hap) hSS 0 rfl rfl 0 (by decide) (hts _ (wd_in (gw_mem 457 rfl rfl))) (fun _ h => h) rfl (by decide +kernel) rfl rfl (Nat.le_of_ble_eq_true rfl) dM_board_13 (fun H locs hP _ hSS => ?_)
    have hP : va_P g.1 cl_X (mo_V g 0 ks kc rn oc hd hs se bd (nI b) dk dp ct bo wi sh lf lc mo ah) H := hP
    refine lv_aload_n hx hb dM_board_16 rfl (lv_at hl 0 rfl) ?_
    refine va_get (D := g.1) (ci := 1) (v := .int 0) (C := "HandTablesModel") (T := T_M) (N := 20) hx hb hts (fun w hw => wd_in (u_inM w hw)) hown hK hP 0 rfl rfl 0 (by decide) (hts _ (wd_in (gw_mem 457 rfl rfl))) (fun _ h => h) rfl dM_board_17 ?_
    refine lv_if_le (tgt := 25) hx hb dM_board_20 (by decide) (fun hc2 => ?_) (fun hc2 => ?_)
    rotate_left
    · first | exact absurd hc2 (by decide) | exact absurd (by decide) hc2
    refine lv_aload_n hx hb dM_board_25 rfl (lv_at hl 0 rfl) ?_
    refine va_get (D := g.1) (ci := 1) (v := .int (nI b)) (C := "HandTablesModel") (T := T_M) (N := 20) hx hb hts (fun w hw => wd_in (u_inM w hw)) hown hK hP 0 rfl rfl 9 (by decide) (hts _ (wd_in (gw_mem 466 rfl rfl))) (fun _ h => h) rfl dM_board_26 ?_
    refine lv_iconst (v := 5) hx hb dM_board_29 (by decide) ?_
    refine lv_icmp_eq (tgt := 42) hx hb dM_board_30 (by decide) (fun hc3 => ?_) (fun hc3 => ?_)
    · refine lv_iconst (v := (-1)) hx hb dM_board_42 (by decide) ?_
      exact mm_iret (S := (0, ks, kc, rn, oc, hd, hs, se, bd, (nI b), dk, dp, ct, bo, wi, sh, lf, lc, mo, ah)) hx hb hr hlk dM_board_43 hP hSS (by exact ⟨by (try simp only [k_boardV, k_boardC, if_pos hc1, if_pos hc3]) <;> rfl, by (try simp only [k_boardV, k_boardC, if_pos hc1, if_pos hc3]) <;> rfl⟩)
    · refine lv_aload_n hx hb dM_board_33 rfl (lv_at hl 0 rfl) ?_
      refine lv_iload_n hx hb dM_board_34 rfl (lv_at hl 1 rfl) ?_
      refine lv_iconst (v := (-1)) hx hb dM_board_35 (by decide) ?_
      refine mm_V (cM_stands l g 0 ks kc rn oc hd hs se bd b dk dp ct bo wi sh lf lc mo ah k (-1) hap hb5) rfl kM_M_stands hS hK hP ⟨Nat.le_of_ble_eq_true rfl, Nat.le_of_ble_eq_true rfl⟩ hl.1 rfl (Nat.le_of_ble_eq_true rfl) ⟨Nat.zero_le _, Nat.zero_le _⟩ dM_board_36 hSS (fun v9 S9 H locs hR hP hSS => ?_)
      obtain ⟨rfl, rfl⟩ := hR
      have hP : va_P g.1 cl_X (mo_V g 0 ks kc rn oc hd hs se bd (nI b) dk dp ct bo wi sh lf lc mo ah) H := hP
      refine lv_if_eq (tgt := 44) hx hb dM_board_39 (by decide) (fun hc4 => ?_) (fun hc4 => ?_)
      · refine lv_aload_n hx hb dM_board_44 rfl (lv_at hl 0 rfl) ?_
        refine va_get (D := g.1) (ci := 1) (v := .ref (g.2.2 6)) (C := "HandTablesModel") (T := T_M) (N := 20) hx hb hts (fun w hw => wd_in (u_inM w hw)) hown hK hP 0 rfl rfl 8 (by decide) (hts _ (wd_in (gw_mem 465 rfl rfl))) (fun _ h => h) rfl dM_board_45 ?_
        refine lv_aload_n hx hb dM_board_48 rfl (lv_at hl 0 rfl) ?_
        refine va_get (D := g.1) (ci := 1) (v := .int (nI b)) (C := "HandTablesModel") (T := T_M) (N := 20) hx hb hts (fun w hw => wd_in (u_inM w hw)) hown hK hP 0 rfl rfl 9 (by decide) (hts _ (wd_in (gw_mem 466 rfl rfl))) (fun _ h => h) rfl dM_board_49 ?_
        refine lv_iload_n hx hb dM_board_52 rfl (lv_at hl 1 rfl) ?_
        refine va_iast (x := k) hx hb hK hP (mo_D hap) hSS 6 0 rfl rfl (k_b5 hb5 hc3) dM_board_53 (fun H locs hP _ hSS => ?_)
        have hP : va_P g.1 cl_X (mo_V g 0 ks kc rn oc hd hs se (upd bd ((nI b) : Int32).toNatClampNeg k) (nI b) dk dp ct bo wi sh lf lc mo ah) H := hP
        refine lv_aload_n hx hb dM_board_54 rfl (lv_at hl 0 rfl) ?_
        refine lv_dup hx hb dM_board_55 rfl ?_
        refine va_get (D := g.1) (ci := 1) (v := .int (nI b)) (C := "HandTablesModel") (T := T_M) (N := 20) hx hb hts (fun w hw => wd_in (u_inM w hw)) hown hK hP 0 rfl rfl 9 (by decide) (hts _ (wd_in (gw_mem 466 rfl rfl))) (fun _ h => h) rfl dM_board_56 ?_
        refine lv_iconst (v := 1) hx hb dM_board_59 (by decide) ?_
        refine lv_iadd hx hb dM_board_60 ?_
        refine va_put (D := g.1) (ci := 1) (v := .int ((nI b) + 1)) (ty := .int) (C := "HandTablesModel") (T := T_M) (N := 20) hx hb hts (fun w hw => wd_in (u_inM w hw)) tf_M tf_M_ok n_M hown hK hP (mo_D hap) hSS 0 rfl rfl 9 (by decide) (hts _ (wd_in (gw_mem 466 rfl rfl))) (fun _ h => h) rfl (by decide +kernel) rfl rfl (Nat.le_of_ble_eq_true rfl) dM_board_61 (fun H locs hP _ hSS => ?_)
        have hP : va_P g.1 cl_X (mo_V g 0 ks kc rn oc hd hs se (upd bd ((nI b) : Int32).toNatClampNeg k) ((nI b) + 1) dk dp ct bo wi sh lf lc mo ah) H := hP
        refine lv_aload_n hx hb dM_board_64 rfl (lv_at hl 0 rfl) ?_
        refine lv_iconst (v := 0) hx hb dM_board_65 (by decide) ?_
        refine va_put (D := g.1) (ci := 1) (v := .int 0) (ty := .boolean) (C := "HandTablesModel") (T := T_M) (N := 20) hx hb hts (fun w hw => wd_in (u_inM w hw)) tf_M tf_M_ok n_M hown hK hP (mo_D hap) hSS 0 rfl rfl 12 (by decide) (hts _ (wd_in (gw_mem 469 rfl rfl))) (fun _ h => h) rfl (by decide +kernel) rfl rfl (Nat.le_of_ble_eq_true rfl) dM_board_66 (fun H locs hP _ hSS => ?_)
        have hP : va_P g.1 cl_X (mo_V g 0 ks kc rn oc hd hs se (upd bd ((nI b) : Int32).toNatClampNeg k) ((nI b) + 1) dk dp 0 bo wi sh lf lc mo ah) H := hP
        refine lv_aload_n hx hb dM_board_69 rfl (lv_at hl 0 rfl) ?_
        refine va_get (D := g.1) (ci := 1) (v := .int ((nI b) + 1)) (C := "HandTablesModel") (T := T_M) (N := 20) hx hb hts (fun w hw => wd_in (u_inM w hw)) hown hK hP 0 rfl rfl 9 (by decide) (hts _ (wd_in (gw_mem 466 rfl rfl))) (fun _ h => h) rfl dM_board_70 ?_
        exact mm_iret (S := (0, ks, kc, rn, oc, hd, hs, se, (upd bd ((nI b) : Int32).toNatClampNeg k), ((nI b) + 1), dk, dp, 0, bo, wi, sh, lf, lc, mo, ah)) hx hb hr hlk dM_board_73 hP hSS (by exact ⟨by (try simp only [k_boardV, k_boardC, if_pos hc1, if_neg hc3, if_pos hc4]) <;> rfl, by (try simp only [k_boardV, k_boardC, if_pos hc1, if_neg hc3, if_pos hc4]) <;> rfl⟩)
      · refine lv_iconst (v := (-1)) hx hb dM_board_42 (by decide) ?_
        exact mm_iret (S := (0, ks, kc, rn, oc, hd, hs, se, bd, (nI b), dk, dp, ct, bo, wi, sh, lf, lc, mo, ah)) hx hb hr hlk dM_board_43 hP hSS (by exact ⟨by (try simp only [k_boardV, k_boardC, if_pos hc1, if_neg hc3, if_neg hc4]) <;> rfl, by (try simp only [k_boardV, k_boardC, if_pos hc1, if_neg hc3, if_neg hc4]) <;> rfl⟩)
  · refine lv_iconst (v := 1) hx hb dM_board_8 (by decide) ?_
    refine lv_goto (tgt := 13) hx hb dM_board_9 (by decide) ?_
    refine va_put (D := g.1) (ci := 1) (v := .int 1) (ty := .int) (C := "HandTablesModel") (T := T_M) (N := 20) hx hb hts (fun w hw => wd_in (u_inM w hw)) tf_M tf_M_ok n_M hown hK hP (mo_D hap) hSS 0 rfl rfl 0 (by decide) (hts _ (wd_in (gw_mem 457 rfl rfl))) (fun _ h => h) rfl (by decide +kernel) rfl rfl (Nat.le_of_ble_eq_true rfl) dM_board_13 (fun H locs hP _ hSS => ?_)
    have hP : va_P g.1 cl_X (mo_V g 1 ks kc rn oc hd hs se bd (nI b) dk dp ct bo wi sh lf lc mo ah) H := hP
    refine lv_aload_n hx hb dM_board_16 rfl (lv_at hl 0 rfl) ?_
    refine va_get (D := g.1) (ci := 1) (v := .int 1) (C := "HandTablesModel") (T := T_M) (N := 20) hx hb hts (fun w hw => wd_in (u_inM w hw)) hown hK hP 0 rfl rfl 0 (by decide) (hts _ (wd_in (gw_mem 457 rfl rfl))) (fun _ h => h) rfl dM_board_17 ?_
    refine lv_if_le (tgt := 25) hx hb dM_board_20 (by decide) (fun hc5 => ?_) (fun hc5 => ?_)
    · first | exact absurd hc5 (by decide) | exact absurd (by decide) hc5
    refine lv_iconst (v := 0) hx hb dM_board_23 (by decide) ?_
    exact mm_iret (S := (1, ks, kc, rn, oc, hd, hs, se, bd, (nI b), dk, dp, ct, bo, wi, sh, lf, lc, mo, ah)) hx hb hr hlk dM_board_24 hP hSS (by exact ⟨by (try simp only [k_boardV, k_boardC, if_neg hc1]) <;> rfl, by (try simp only [k_boardV, k_boardC, if_neg hc1]) <;> rfl⟩)
set_option maxHeartbeats 4000000 in
set_option maxRecDepth 100000 in
theorem cM_clear (l : Launch) (g : mo_E) (th : Int32) (ks : Nat → Int32) (kc : Int32) (rn : Nat → Int32) (oc : Nat → Int32) (hd : Nat → Int32) (hs : Int32) (se : Nat → Int32) (bd : Nat → Int32) (bs : Int32) (dk : Nat → Int32) (dp : Int32) (ct : Int32) (bo : Int32) (wi : Nat → Int32) (sh : Nat → Int32) (lf : Nat → Int32) (lc : Int32) (mo : Int32) (ah : Int32)   (hap : mo_ap g)  : mm_M l yM_clear bM_clear 2 (some .int) 0 [.ref (g.2.2 0)] g (th, ks, kc, rn, oc, hd, hs, se, bd, bs, dk, dp, ct, bo, wi, sh, lf, lc, mo, ah) (fun v9 S9 => v9 = some (.int bs) ∧ S9 = (0, ks, kc, rn, oc, hd, hs, se, bd, 0, dk, dp, 0, bo, wi, sh, lf, lc, mo, ah)) := by
  refine Met.ofW (cc := bM_clear) (maxL := 2) (ret := (some .int)) (by decide) rfl ?_
  intro p e s m args below meth c s₁ BB hml hv
  obtain ⟨rfl, hB⟩ := hv
  have hx := BB.exec
  have hb := BB.bytes
  have hr := BB.returns
  have hlk := BB.notSynchronized
  have hts := atoms_spec (ws := wd yM_clear bM_clear 2 (some .int)) BB.pre
  have hown : s.vm.findClass "HandTablesModel" = some m.cls := findClass_of_methodNamed BB.named
  have hS : CallFix p m c bM_clear 2 s _ (wd yM_clear bM_clear 2 (some .int)) "HandTablesModel" := ⟨hx, hb, hml, hown, hts⟩
  obtain ⟨hP, hK⟩ := hB
  have hP : va_P g.1 cl_X (mo_V g th ks kc rn oc hd hs se bd bs dk dp ct bo wi sh lf lc mo ah) s.heap := hP
  have hSS : va_S (mo_fr g) s.heap s.heap [] := va_S.rf
  have hl := lv_entry ([.ref (g.2.2 0)]) (n := 2) (Nat.le_of_ble_eq_true rfl)
  rw [lg_entry_eq]
  generalize (lg_sl ([.ref (g.2.2 0)]) ++ List.replicate (2 - (lg_sl ([.ref (g.2.2 0)])).length) Slot.unset).toArray = ls at hl ⊢
  have hl : lv_has ls 2 [(0, .ref (g.2.2 0))] := hl
  obtain ⟨H, eH⟩ : ∃ H, s.heap = H := ⟨_, rfl⟩
  obtain ⟨locs, eL⟩ : ∃ L, ([] : List Loc) = L := ⟨_, rfl⟩
  have hP : va_P g.1 cl_X (mo_V g th ks kc rn oc hd hs se bd bs dk dp ct bo wi sh lf lc mo ah) H := by rw [← eH]; exact hP
  have hSS : va_S (mo_fr g) s.heap H locs := by rw [← eH, ← eL]; exact hSS
  refine mm_go eH eL ?_
  clear eH eL
  refine lv_aload_n hx hb dM_clear_0 rfl (lv_at hl 0 rfl) ?_
  refine lv_iconst (v := 0) hx hb dM_clear_1 (by decide) ?_
  refine va_put (D := g.1) (ci := 1) (v := .int 0) (ty := .int) (C := "HandTablesModel") (T := T_M) (N := 20) hx hb hts (fun w hw => wd_in (u_inM w hw)) tf_M tf_M_ok n_M hown hK hP (mo_D hap) hSS 0 rfl rfl 0 (by decide) (hts _ (wd_in (gw_mem 457 rfl rfl))) (fun _ h => h) rfl (by decide +kernel) rfl rfl (Nat.le_of_ble_eq_true rfl) dM_clear_2 (fun H locs hP _ hSS => ?_)
  have hP : va_P g.1 cl_X (mo_V g 0 ks kc rn oc hd hs se bd bs dk dp ct bo wi sh lf lc mo ah) H := hP
  refine lv_aload_n hx hb dM_clear_5 rfl (lv_at hl 0 rfl) ?_
  refine va_get (D := g.1) (ci := 1) (v := .int bs) (C := "HandTablesModel") (T := T_M) (N := 20) hx hb hts (fun w hw => wd_in (u_inM w hw)) hown hK hP 0 rfl rfl 9 (by decide) (hts _ (wd_in (gw_mem 466 rfl rfl))) (fun _ h => h) rfl dM_clear_6 ?_
  refine jt_topi (fun x1 ex1 => ?_)
  refine lv_istore_n (lv' := [(1, .int x1), (0, .ref (g.2.2 0))]) hx hb dM_clear_9 rfl hl (by decide) rfl (fun ls hl => ?_)
  refine lv_aload_n hx hb dM_clear_10 rfl (lv_at hl 1 rfl) ?_
  refine lv_iconst (v := 0) hx hb dM_clear_11 (by decide) ?_
  refine va_put (D := g.1) (ci := 1) (v := .int 0) (ty := .int) (C := "HandTablesModel") (T := T_M) (N := 20) hx hb hts (fun w hw => wd_in (u_inM w hw)) tf_M tf_M_ok n_M hown hK hP (mo_D hap) hSS 0 rfl rfl 9 (by decide) (hts _ (wd_in (gw_mem 466 rfl rfl))) (fun _ h => h) rfl (by decide +kernel) rfl rfl (Nat.le_of_ble_eq_true rfl) dM_clear_12 (fun H locs hP _ hSS => ?_)
  have hP : va_P g.1 cl_X (mo_V g 0 ks kc rn oc hd hs se bd 0 dk dp ct bo wi sh lf lc mo ah) H := hP
  refine lv_aload_n hx hb dM_clear_15 rfl (lv_at hl 1 rfl) ?_
  refine lv_iconst (v := 0) hx hb dM_clear_16 (by decide) ?_
  refine va_put (D := g.1) (ci := 1) (v := .int 0) (ty := .boolean) (C := "HandTablesModel") (T := T_M) (N := 20) hx hb hts (fun w hw => wd_in (u_inM w hw)) tf_M tf_M_ok n_M hown hK hP (mo_D hap) hSS 0 rfl rfl 12 (by decide) (hts _ (wd_in (gw_mem 469 rfl rfl))) (fun _ h => h) rfl (by decide +kernel) rfl rfl (Nat.le_of_ble_eq_true rfl) dM_clear_17 (fun H locs hP _ hSS => ?_)
  have hP : va_P g.1 cl_X (mo_V g 0 ks kc rn oc hd hs se bd 0 dk dp 0 bo wi sh lf lc mo ah) H := hP
  refine lv_iload_n hx hb dM_clear_20 rfl (lv_at hl 0 rfl) ?_
  exact mm_iret (S := (0, ks, kc, rn, oc, hd, hs, se, bd, 0, dk, dp, 0, bo, wi, sh, lf, lc, mo, ah)) hx hb hr hlk dM_clear_21 hP hSS (by exact ⟨by subst ex1; (try simp only []) <;> rfl, by subst ex1; (try simp only []) <;> rfl⟩)
set_option maxHeartbeats 4000000 in
set_option maxRecDepth 100000 in
theorem cM_cards (l : Launch) (g : mo_E) (th : Int32) (ks : Nat → Int32) (kc : Int32) (rn : Nat → Int32) (oc : Nat → Int32) (hd : Nat → Int32) (hs : Int32) (se : Nat → Int32) (bd : Nat → Int32) (b : Nat) (dk : Nat → Int32) (dp : Int32) (ct : Int32) (bo : Int32) (wi : Nat → Int32) (sh : Nat → Int32) (lf : Nat → Int32) (lc : Int32) (mo : Int32) (ah : Int32) (q : Int32)  (hap : mo_ap g) (hb5 : b ≤ 5) : mm_M l yM_cards bM_cards 5 (some .long) 1 [.ref (g.2.2 0), .int q] g (th, ks, kc, rn, oc, hd, hs, se, bd, (nI b), dk, dp, ct, bo, wi, sh, lf, lc, mo, ah) (fun v9 S9 => v9 = some (.long (if q = 6 then k_bset bd b else if m_noSeat q = 0 then (if se (2 * q).toNatClampNeg = -1 then 0 else jl 1 (se (2 * q).toNatClampNeg) ||| jl 1 (se (2 * q + 1).toNatClampNeg)) else 0)) ∧ S9 = ((if q = 6 then 0 else if m_noSeat q = 0 then 0 else 1), ks, kc, rn, oc, hd, hs, se, bd, (nI b), dk, dp, ct, bo, wi, sh, lf, lc, mo, ah)) := by
  refine Met.ofW (cc := bM_cards) (maxL := 5) (ret := (some .long)) (by decide) rfl ?_
  intro p e s m args below meth c s₁ BB hml hv
  obtain ⟨rfl, hB⟩ := hv
  have hx := BB.exec
  have hb := BB.bytes
  have hr := BB.returns
  have hlk := BB.notSynchronized
  have hts := atoms_spec (ws := wd yM_cards bM_cards 5 (some .long)) BB.pre
  have hown : s.vm.findClass "HandTablesModel" = some m.cls := findClass_of_methodNamed BB.named
  have hS : CallFix p m c bM_cards 5 s _ (wd yM_cards bM_cards 5 (some .long)) "HandTablesModel" := ⟨hx, hb, hml, hown, hts⟩
  obtain ⟨hP, hK⟩ := hB
  have hP : va_P g.1 cl_X (mo_V g th ks kc rn oc hd hs se bd (nI b) dk dp ct bo wi sh lf lc mo ah) s.heap := hP
  have hSS : va_S (mo_fr g) s.heap s.heap [] := va_S.rf
  have hl := lv_entry ([.ref (g.2.2 0), .int q]) (n := 5) (Nat.le_of_ble_eq_true rfl)
  rw [lg_entry_eq]
  generalize (lg_sl ([.ref (g.2.2 0), .int q]) ++ List.replicate (5 - (lg_sl ([.ref (g.2.2 0), .int q])).length) Slot.unset).toArray = ls at hl ⊢
  have hl : lv_has ls 5 [(0, .ref (g.2.2 0)), (1, .int q)] := hl
  obtain ⟨H, eH⟩ : ∃ H, s.heap = H := ⟨_, rfl⟩
  obtain ⟨locs, eL⟩ : ∃ L, ([] : List Loc) = L := ⟨_, rfl⟩
  have hP : va_P g.1 cl_X (mo_V g th ks kc rn oc hd hs se bd (nI b) dk dp ct bo wi sh lf lc mo ah) H := by rw [← eH]; exact hP
  have hSS : va_S (mo_fr g) s.heap H locs := by rw [← eH, ← eL]; exact hSS
  refine mm_go eH eL ?_
  clear eH eL
  refine lv_aload_n hx hb dM_cards_0 rfl (lv_at hl 0 rfl) ?_
  refine lv_iload_n hx hb dM_cards_1 rfl (lv_at hl 1 rfl) ?_
  refine lv_bipush (v := 6) hx hb dM_cards_2 (by decide) ?_
  refine lv_icmp_eq (tgt := 14) hx hb dM_cards_4 (by decide) (fun hc1 => ?_) (fun hc1 => ?_)
  · refine lv_iconst (v := 0) hx hb dM_cards_14 (by decide) ?_
    refine lv_goto (tgt := 19) hx hb dM_cards_15 (by decide) ?_
    refine va_put (D := g.1) (ci := 1) (v := .int 0) (ty := .int) (C := "HandTablesModel") (T := T_M) (N := 20) hx hb hts (fun w hw => wd_in (u_inM w hw)) tf_M tf_M_ok n_M hown hK hP (mo_D hap) hSS 0 rfl rfl 0 (by decide) (hts _ (wd_in (gw_mem 457 rfl rfl))) (fun _ h => h) rfl (by decide +kernel) rfl rfl (Nat.le_of_ble_eq_true rfl) dM_cards_19 (fun H locs hP _ hSS => ?_)
    have hP : va_P g.1 cl_X (mo_V g 0 ks kc rn oc hd hs se bd (nI b) dk dp ct bo wi sh lf lc mo ah) H := hP
    refine lv_aload_n hx hb dM_cards_22 rfl (lv_at hl 0 rfl) ?_
    refine va_get (D := g.1) (ci := 1) (v := .int 0) (C := "HandTablesModel") (T := T_M) (N := 20) hx hb hts (fun w hw => wd_in (u_inM w hw)) hown hK hP 0 rfl rfl 0 (by decide) (hts _ (wd_in (gw_mem 457 rfl rfl))) (fun _ h => h) rfl dM_cards_23 ?_
    refine lv_if_le (tgt := 31) hx hb dM_cards_26 (by decide) (fun hc2 => ?_) (fun hc2 => ?_)
    rotate_left
    · first | exact absurd hc2 (by decide) | exact absurd (by decide) hc2
    refine lv_lconst (v := 0) hx hb dM_cards_31 (by decide) ?_
    refine jt_topl (fun x3 ex3 => ?_)
    refine lv_lstore_n (lv' := [(2, .long x3), (0, .ref (g.2.2 0)), (1, .int q)]) hx hb dM_cards_32 rfl hl (by decide) rfl (fun ls hl => ?_)
    refine lv_iconst (v := 0) hx hb dM_cards_33 (by decide) ?_
    refine jt_topi (fun x4 ex4 => ?_)
    refine lv_istore (lv' := [(4, .int x4), (2, .long x3), (0, .ref (g.2.2 0)), (1, .int q)]) hx hb dM_cards_34 hl (by decide) rfl (fun ls hl => ?_)
    have hloop : ∀ (n : Nat) (z : Int64)   (H : Heap) (locs : List Loc) (ls : Array Slot), lv_has ls 5 [(4, .int (nI (b - n))), (2, .long z), (1, .int q), (0, .ref (g.2.2 0))] → va_P g.1 cl_X (mo_V g 0 ks kc rn oc hd hs se bd (nI b) dk dp ct bo wi sh lf lc mo ah) H → va_S (mo_fr g) s.heap H locs → (n ≤ b) → (∀  (H : Heap) (locs : List Loc) (ls : Array Slot), lv_has ls 5 [(2, .long (kd_c bd b n z)), (1, .int q), (0, .ref (g.2.2 0))] → va_P g.1 cl_X (mo_V g 0 ks kc rn oc hd hs se bd (nI b) dk dp ct bo wi sh lf lc mo ah) H → va_S (mo_fr g) s.heap H locs → W p l e (headSpec (wd yM_cards bM_cards 5 (some .long)) (rmD 1 0 0)).room s m ([.ref (g.2.2 0), .int q]).toArray below meth c H locs 0 0 (MQ below (mm_Q g (fun v9 S9 => v9 = some (.long (if q = 6 then k_bset bd b else if m_noSeat q = 0 then (if se (2 * q).toNatClampNeg = -1 then 0 else jl 1 (se (2 * q).toNatClampNeg) ||| jl 1 (se (2 * q + 1).toNatClampNeg)) else 0)) ∧ S9 = ((if q = 6 then 0 else if m_noSeat q = 0 then 0 else 1), ks, kc, rn, oc, hd, hs, se, bd, (nI b), dk, dp, ct, bo, wi, sh, lf, lc, mo, ah))) ([.ref (g.2.2 0), .int q]).toArray s 0 0 (mo_fr g)) (F0 m 69 ls [])) → W p l e (headSpec (wd yM_cards bM_cards 5 (some .long)) (rmD 1 0 0)).room s m ([.ref (g.2.2 0), .int q]).toArray below meth c H locs 0 0 (MQ below (mm_Q g (fun v9 S9 => v9 = some (.long (if q = 6 then k_bset bd b else if m_noSeat q = 0 then (if se (2 * q).toNatClampNeg = -1 then 0 else jl 1 (se (2 * q).toNatClampNeg) ||| jl 1 (se (2 * q + 1).toNatClampNeg)) else 0)) ∧ S9 = ((if q = 6 then 0 else if m_noSeat q = 0 then 0 else 1), ks, kc, rn, oc, hd, hs, se, bd, (nI b), dk, dp, ct, bo, wi, sh, lf, lc, mo, ah))) ([.ref (g.2.2 0), .int q]).toArray s 0 0 (mo_fr g)) (F0 m 36 ls []) := by
      intro n
      induction n with
      | zero =>
        intro z   H locs ls hl hP hSS hn K
        refine lv_iload hx hb dM_cards_36 (lv_at hl 0 rfl) ?_
        refine lv_aload_n hx hb dM_cards_38 rfl (lv_at hl 3 rfl) ?_
        refine va_get (D := g.1) (ci := 1) (v := .int (nI b)) (C := "HandTablesModel") (T := T_M) (N := 20) hx hb hts (fun w hw => wd_in (u_inM w hw)) hown hK hP 0 rfl rfl 9 (by decide) (hts _ (wd_in (gw_mem 466 rfl rfl))) (fun _ h => h) rfl dM_cards_39 ?_
        refine lv_icmp_ge (tgt := 69) hx hb dM_cards_42 (by decide) (fun hc6 => ?_) (fun hc6 => ?_)
        · have hlB := lv_sub hl [1, 2, 3] rfl
          have hPB := hP
          have hSB := hSS
          simp only [kd_c] at K
          exact K  _ _ _ hlB hPB hSB 
        · exact absurd (show nI b ≤ nI (b - 0) from Int32.le_refl _) hc6
      | succ n ih =>
        intro z   H locs ls hl hP hSS hn K
        refine lv_iload hx hb dM_cards_36 (lv_at hl 0 rfl) ?_
        refine lv_aload_n hx hb dM_cards_38 rfl (lv_at hl 3 rfl) ?_
        refine va_get (D := g.1) (ci := 1) (v := .int (nI b)) (C := "HandTablesModel") (T := T_M) (N := 20) hx hb hts (fun w hw => wd_in (u_inM w hw)) hown hK hP 0 rfl rfl 9 (by decide) (hts _ (wd_in (gw_mem 466 rfl rfl))) (fun _ h => h) rfl dM_cards_39 ?_
        refine lv_icmp_ge (tgt := 69) hx hb dM_cards_42 (by decide) (fun hc7 => ?_) (fun hc7 => ?_)
        · exact absurd hc7 (nI_ge (by omega) (by omega))
        · refine lv_iload_n hx hb dM_cards_45 rfl (lv_at hl 2 rfl) ?_
          refine lv_bipush (v := 6) hx hb dM_cards_46 (by decide) ?_
          refine lv_icmp_ne (tgt := 69) hx hb dM_cards_48 (by decide) (fun hc8 => ?_) (fun hc8 => ?_)
          · exact absurd hc1 hc8
          · refine lv_lload_n hx hb dM_cards_51 rfl (lv_at hl 1 rfl) ?_
            refine lv_lconst (v := 1) hx hb dM_cards_52 (by decide) ?_
            refine lv_aload_n hx hb dM_cards_53 rfl (lv_at hl 3 rfl) ?_
            refine va_get (D := g.1) (ci := 1) (v := .ref (g.2.2 6)) (C := "HandTablesModel") (T := T_M) (N := 20) hx hb hts (fun w hw => wd_in (u_inM w hw)) hown hK hP 0 rfl rfl 8 (by decide) (hts _ (wd_in (gw_mem 465 rfl rfl))) (fun _ h => h) rfl dM_cards_54 ?_
            refine lv_iload hx hb dM_cards_57 (lv_at hl 0 rfl) ?_
            refine va_iald hx hb hK hP 6 0 rfl rfl (vp_in_nI (by omega) (by omega)) dM_cards_59 ?_
            refine jv_lshl hx hb dM_cards_60 ?_
            refine lv_lor hx hb dM_cards_61 ?_
            refine jt_topl (fun x9 ex9 => ?_)
            refine lv_lstore_n (lv' := [(2, .long x9), (4, .int (nI (b - (n + 1)))), (1, .int q), (0, .ref (g.2.2 0))]) hx hb dM_cards_62 rfl hl (by decide) rfl (fun ls hl => ?_)
            refine jv_iinc (a := 1) hx hb dM_cards_63 hl (k := 1) rfl (by decide) (by decide) (fun x10 ex10 ls hl => ?_)
            have hl : lv_has ls 5 [(4, .int x10), (2, .long x9), (1, .int q), (0, .ref (g.2.2 0))] := hl
            refine lv_goto (tgt := 36) hx hb dM_cards_66 (by decide) ?_
            rw [nI_up (by omega)] at ex10
            have hlB := lv_sub hl [0, 1, 2, 3] rfl
            have hPB := hP
            have hSB := hSS
            subst ex10 ex9
            simp only [kd_c] at K
            exact ih _   _ _ _ hlB hPB hSB (by omega) K
    refine hloop b x3   _ _ ls (by have h9 := lv_sub hl [0, 1, 3, 2] rfl; subst ex4; rw [Nat.sub_self]; exact h9) hP hSS (Nat.le_refl _) (fun  H locs ls hl hP hSS  => ?_)
    clear hloop
    obtain ⟨y11, ey11⟩ : ∃ z, (kd_c bd b b x3) = z := ⟨_, rfl⟩
    rw [ey11] at hl
    refine lv_iload_n hx hb dM_cards_69 rfl (lv_at hl 1 rfl) ?_
    refine lv_bipush (v := 6) hx hb dM_cards_70 (by decide) ?_
    refine lv_icmp_eq (tgt := 87) hx hb dM_cards_72 (by decide) (fun hc12 => ?_) (fun hc12 => ?_)
    · refine lv_lload_n hx hb dM_cards_87 rfl (lv_at hl 0 rfl) ?_
      refine lv_goto (tgt := 114) hx hb dM_cards_88 (by decide) ?_
      exact mm_lret (S := (0, ks, kc, rn, oc, hd, hs, se, bd, (nI b), dk, dp, ct, bo, wi, sh, lf, lc, mo, ah)) hx hb hr hlk dM_cards_114 hP hSS (by exact ⟨by subst ey11 ex4 ex3; (try simp only [k_bset, if_pos hc1]) <;> rfl, by subst ey11 ex4 ex3; (try simp only [k_bset, if_pos hc1]) <;> rfl⟩)
    · exact absurd hc1 hc12
  · refine lv_iload_n hx hb dM_cards_7 rfl (lv_at hl 1 rfl) ?_
    refine pu_SH (cM_noSeat l _) rfl kM_M_noSeat hS ⟨Nat.le_of_ble_eq_true rfl, Nat.le_of_ble_eq_true rfl⟩ hl.1 rfl (Nat.le_of_ble_eq_true rfl) ⟨Nat.zero_le _, Nat.zero_le _⟩ dM_cards_8 ?_
    refine lv_if_ne (tgt := 18) hx hb dM_cards_11 (by decide) (fun hc13 => ?_) (fun hc13 => ?_)
    · refine lv_iconst (v := 1) hx hb dM_cards_18 (by decide) ?_
      refine va_put (D := g.1) (ci := 1) (v := .int 1) (ty := .int) (C := "HandTablesModel") (T := T_M) (N := 20) hx hb hts (fun w hw => wd_in (u_inM w hw)) tf_M tf_M_ok n_M hown hK hP (mo_D hap) hSS 0 rfl rfl 0 (by decide) (hts _ (wd_in (gw_mem 457 rfl rfl))) (fun _ h => h) rfl (by decide +kernel) rfl rfl (Nat.le_of_ble_eq_true rfl) dM_cards_19 (fun H locs hP _ hSS => ?_)
      have hP : va_P g.1 cl_X (mo_V g 1 ks kc rn oc hd hs se bd (nI b) dk dp ct bo wi sh lf lc mo ah) H := hP
      refine lv_aload_n hx hb dM_cards_22 rfl (lv_at hl 0 rfl) ?_
      refine va_get (D := g.1) (ci := 1) (v := .int 1) (C := "HandTablesModel") (T := T_M) (N := 20) hx hb hts (fun w hw => wd_in (u_inM w hw)) hown hK hP 0 rfl rfl 0 (by decide) (hts _ (wd_in (gw_mem 457 rfl rfl))) (fun _ h => h) rfl dM_cards_23 ?_
      refine lv_if_le (tgt := 31) hx hb dM_cards_26 (by decide) (fun hc14 => ?_) (fun hc14 => ?_)
      · first | exact absurd hc14 (by decide) | exact absurd (by decide) hc14
      refine lv_lconst (v := 0) hx hb dM_cards_29 (by decide) ?_
      exact mm_lret (S := (1, ks, kc, rn, oc, hd, hs, se, bd, (nI b), dk, dp, ct, bo, wi, sh, lf, lc, mo, ah)) hx hb hr hlk dM_cards_30 hP hSS (by exact ⟨by (try simp only [k_bset, if_neg hc1, if_neg hc13]) <;> rfl, by (try simp only [k_bset, if_neg hc1, if_neg hc13]) <;> rfl⟩)
    · refine lv_iconst (v := 0) hx hb dM_cards_14 (by decide) ?_
      refine lv_goto (tgt := 19) hx hb dM_cards_15 (by decide) ?_
      refine va_put (D := g.1) (ci := 1) (v := .int 0) (ty := .int) (C := "HandTablesModel") (T := T_M) (N := 20) hx hb hts (fun w hw => wd_in (u_inM w hw)) tf_M tf_M_ok n_M hown hK hP (mo_D hap) hSS 0 rfl rfl 0 (by decide) (hts _ (wd_in (gw_mem 457 rfl rfl))) (fun _ h => h) rfl (by decide +kernel) rfl rfl (Nat.le_of_ble_eq_true rfl) dM_cards_19 (fun H locs hP _ hSS => ?_)
      have hP : va_P g.1 cl_X (mo_V g 0 ks kc rn oc hd hs se bd (nI b) dk dp ct bo wi sh lf lc mo ah) H := hP
      refine lv_aload_n hx hb dM_cards_22 rfl (lv_at hl 0 rfl) ?_
      refine va_get (D := g.1) (ci := 1) (v := .int 0) (C := "HandTablesModel") (T := T_M) (N := 20) hx hb hts (fun w hw => wd_in (u_inM w hw)) hown hK hP 0 rfl rfl 0 (by decide) (hts _ (wd_in (gw_mem 457 rfl rfl))) (fun _ h => h) rfl dM_cards_23 ?_
      refine lv_if_le (tgt := 31) hx hb dM_cards_26 (by decide) (fun hc15 => ?_) (fun hc15 => ?_)
      rotate_left
      · first | exact absurd hc15 (by decide) | exact absurd (by decide) hc15
      refine lv_lconst (v := 0) hx hb dM_cards_31 (by decide) ?_
      refine jt_topl (fun x16 ex16 => ?_)
      refine lv_lstore_n (lv' := [(2, .long x16), (0, .ref (g.2.2 0)), (1, .int q)]) hx hb dM_cards_32 rfl hl (by decide) rfl (fun ls hl => ?_)
      refine lv_iconst (v := 0) hx hb dM_cards_33 (by decide) ?_
      refine jt_topi (fun x17 ex17 => ?_)
      refine lv_istore (lv' := [(4, .int x17), (2, .long x16), (0, .ref (g.2.2 0)), (1, .int q)]) hx hb dM_cards_34 hl (by decide) rfl (fun ls hl => ?_)
      refine lv_iload hx hb dM_cards_36 (lv_at hl 0 rfl) ?_
      refine lv_aload_n hx hb dM_cards_38 rfl (lv_at hl 2 rfl) ?_
      refine va_get (D := g.1) (ci := 1) (v := .int (nI b)) (C := "HandTablesModel") (T := T_M) (N := 20) hx hb hts (fun w hw => wd_in (u_inM w hw)) hown hK hP 0 rfl rfl 9 (by decide) (hts _ (wd_in (gw_mem 466 rfl rfl))) (fun _ h => h) rfl dM_cards_39 ?_
      refine lv_icmp_ge (tgt := 69) hx hb dM_cards_42 (by decide) (fun hc18 => ?_) (fun hc18 => ?_)
      · refine lv_iload_n hx hb dM_cards_69 rfl (lv_at hl 3 rfl) ?_
        refine lv_bipush (v := 6) hx hb dM_cards_70 (by decide) ?_
        refine lv_icmp_eq (tgt := 87) hx hb dM_cards_72 (by decide) (fun hc19 => ?_) (fun hc19 => ?_)
        · exact absurd hc19 hc1
        · refine lv_aload_n hx hb dM_cards_75 rfl (lv_at hl 2 rfl) ?_
          refine va_get (D := g.1) (ci := 1) (v := .ref (g.2.2 5)) (C := "HandTablesModel") (T := T_M) (N := 20) hx hb hts (fun w hw => wd_in (u_inM w hw)) hown hK hP 0 rfl rfl 7 (by decide) (hts _ (wd_in (gw_mem 464 rfl rfl))) (fun _ h => h) rfl dM_cards_76 ?_
          refine lv_iconst (v := 2) hx hb dM_cards_79 (by decide) ?_
          refine lv_iload_n hx hb dM_cards_80 rfl (lv_at hl 3 rfl) ?_
          refine lv_imul hx hb dM_cards_81 ?_
          refine va_iald hx hb hK hP 5 0 rfl rfl (k_s2 hc13).1 dM_cards_82 ?_
          refine lv_iconst (v := (-1)) hx hb dM_cards_83 (by decide) ?_
          refine lv_icmp_ne (tgt := 91) hx hb dM_cards_84 (by decide) (fun hc20 => ?_) (fun hc20 => ?_)
          · refine lv_lconst (v := 1) hx hb dM_cards_91 (by decide) ?_
            refine lv_aload_n hx hb dM_cards_92 rfl (lv_at hl 2 rfl) ?_
            refine va_get (D := g.1) (ci := 1) (v := .ref (g.2.2 5)) (C := "HandTablesModel") (T := T_M) (N := 20) hx hb hts (fun w hw => wd_in (u_inM w hw)) hown hK hP 0 rfl rfl 7 (by decide) (hts _ (wd_in (gw_mem 464 rfl rfl))) (fun _ h => h) rfl dM_cards_93 ?_
            refine lv_iconst (v := 2) hx hb dM_cards_96 (by decide) ?_
            refine lv_iload_n hx hb dM_cards_97 rfl (lv_at hl 3 rfl) ?_
            refine lv_imul hx hb dM_cards_98 ?_
            refine va_iald hx hb hK hP 5 0 rfl rfl (k_s2 hc13).1 dM_cards_99 ?_
            refine jv_lshl hx hb dM_cards_100 ?_
            refine lv_lconst (v := 1) hx hb dM_cards_101 (by decide) ?_
            refine lv_aload_n hx hb dM_cards_102 rfl (lv_at hl 2 rfl) ?_
            refine va_get (D := g.1) (ci := 1) (v := .ref (g.2.2 5)) (C := "HandTablesModel") (T := T_M) (N := 20) hx hb hts (fun w hw => wd_in (u_inM w hw)) hown hK hP 0 rfl rfl 7 (by decide) (hts _ (wd_in (gw_mem 464 rfl rfl))) (fun _ h => h) rfl dM_cards_103 ?_
            refine lv_iconst (v := 2) hx hb dM_cards_106 (by decide) ?_
            refine lv_iload_n hx hb dM_cards_107 rfl (lv_at hl 3 rfl) ?_
            refine lv_imul hx hb dM_cards_108 ?_
            refine lv_iconst (v := 1) hx hb dM_cards_109 (by decide) ?_
            refine lv_iadd hx hb dM_cards_110 ?_
            refine va_iald hx hb hK hP 5 0 rfl rfl (k_s2 hc13).2.1 dM_cards_111 ?_
            refine jv_lshl hx hb dM_cards_112 ?_
            refine lv_lor hx hb dM_cards_113 ?_
            exact mm_lret (S := (0, ks, kc, rn, oc, hd, hs, se, bd, (nI b), dk, dp, ct, bo, wi, sh, lf, lc, mo, ah)) hx hb hr hlk dM_cards_114 hP hSS (by exact ⟨by subst ex17 ex16; (try simp only [k_bset, if_neg hc1, if_pos hc13, if_pos hc18, if_neg hc20]) <;> rfl, by subst ex17 ex16; (try simp only [k_bset, if_neg hc1, if_pos hc13, if_pos hc18, if_neg hc20]) <;> rfl⟩)
          · refine lv_lload_n hx hb dM_cards_87 rfl (lv_at hl 1 rfl) ?_
            refine lv_goto (tgt := 114) hx hb dM_cards_88 (by decide) ?_
            exact mm_lret (S := (0, ks, kc, rn, oc, hd, hs, se, bd, (nI b), dk, dp, ct, bo, wi, sh, lf, lc, mo, ah)) hx hb hr hlk dM_cards_114 hP hSS (by exact ⟨by subst ex17 ex16; (try simp only [k_bset, if_neg hc1, if_pos hc13, if_pos hc18, if_pos hc20]) <;> rfl, by subst ex17 ex16; (try simp only [k_bset, if_neg hc1, if_pos hc13, if_pos hc18, if_pos hc20]) <;> rfl⟩)
      · refine lv_iload_n hx hb dM_cards_45 rfl (lv_at hl 3 rfl) ?_
        refine lv_bipush (v := 6) hx hb dM_cards_46 (by decide) ?_
        refine lv_icmp_ne (tgt := 69) hx hb dM_cards_48 (by decide) (fun hc21 => ?_) (fun hc21 => ?_)
        · refine lv_iload_n hx hb dM_cards_69 rfl (lv_at hl 3 rfl) ?_
          refine lv_bipush (v := 6) hx hb dM_cards_70 (by decide) ?_
          refine lv_icmp_eq (tgt := 87) hx hb dM_cards_72 (by decide) (fun hc22 => ?_) (fun hc22 => ?_)
          · exact absurd hc22 hc1
          · refine lv_aload_n hx hb dM_cards_75 rfl (lv_at hl 2 rfl) ?_
            refine va_get (D := g.1) (ci := 1) (v := .ref (g.2.2 5)) (C := "HandTablesModel") (T := T_M) (N := 20) hx hb hts (fun w hw => wd_in (u_inM w hw)) hown hK hP 0 rfl rfl 7 (by decide) (hts _ (wd_in (gw_mem 464 rfl rfl))) (fun _ h => h) rfl dM_cards_76 ?_
            refine lv_iconst (v := 2) hx hb dM_cards_79 (by decide) ?_
            refine lv_iload_n hx hb dM_cards_80 rfl (lv_at hl 3 rfl) ?_
            refine lv_imul hx hb dM_cards_81 ?_
            refine va_iald hx hb hK hP 5 0 rfl rfl (k_s2 hc13).1 dM_cards_82 ?_
            refine lv_iconst (v := (-1)) hx hb dM_cards_83 (by decide) ?_
            refine lv_icmp_ne (tgt := 91) hx hb dM_cards_84 (by decide) (fun hc23 => ?_) (fun hc23 => ?_)
            · refine lv_lconst (v := 1) hx hb dM_cards_91 (by decide) ?_
              refine lv_aload_n hx hb dM_cards_92 rfl (lv_at hl 2 rfl) ?_
              refine va_get (D := g.1) (ci := 1) (v := .ref (g.2.2 5)) (C := "HandTablesModel") (T := T_M) (N := 20) hx hb hts (fun w hw => wd_in (u_inM w hw)) hown hK hP 0 rfl rfl 7 (by decide) (hts _ (wd_in (gw_mem 464 rfl rfl))) (fun _ h => h) rfl dM_cards_93 ?_
              refine lv_iconst (v := 2) hx hb dM_cards_96 (by decide) ?_
              refine lv_iload_n hx hb dM_cards_97 rfl (lv_at hl 3 rfl) ?_
              refine lv_imul hx hb dM_cards_98 ?_
              refine va_iald hx hb hK hP 5 0 rfl rfl (k_s2 hc13).1 dM_cards_99 ?_
              refine jv_lshl hx hb dM_cards_100 ?_
              refine lv_lconst (v := 1) hx hb dM_cards_101 (by decide) ?_
              refine lv_aload_n hx hb dM_cards_102 rfl (lv_at hl 2 rfl) ?_
              refine va_get (D := g.1) (ci := 1) (v := .ref (g.2.2 5)) (C := "HandTablesModel") (T := T_M) (N := 20) hx hb hts (fun w hw => wd_in (u_inM w hw)) hown hK hP 0 rfl rfl 7 (by decide) (hts _ (wd_in (gw_mem 464 rfl rfl))) (fun _ h => h) rfl dM_cards_103 ?_
              refine lv_iconst (v := 2) hx hb dM_cards_106 (by decide) ?_
              refine lv_iload_n hx hb dM_cards_107 rfl (lv_at hl 3 rfl) ?_
              refine lv_imul hx hb dM_cards_108 ?_
              refine lv_iconst (v := 1) hx hb dM_cards_109 (by decide) ?_
              refine lv_iadd hx hb dM_cards_110 ?_
              refine va_iald hx hb hK hP 5 0 rfl rfl (k_s2 hc13).2.1 dM_cards_111 ?_
              refine jv_lshl hx hb dM_cards_112 ?_
              refine lv_lor hx hb dM_cards_113 ?_
              exact mm_lret (S := (0, ks, kc, rn, oc, hd, hs, se, bd, (nI b), dk, dp, ct, bo, wi, sh, lf, lc, mo, ah)) hx hb hr hlk dM_cards_114 hP hSS (by exact ⟨by subst ex17 ex16; (try simp only [k_bset, if_neg hc1, if_pos hc13, if_neg hc18, if_neg hc23]) <;> rfl, by subst ex17 ex16; (try simp only [k_bset, if_neg hc1, if_pos hc13, if_neg hc18, if_neg hc23]) <;> rfl⟩)
            · refine lv_lload_n hx hb dM_cards_87 rfl (lv_at hl 1 rfl) ?_
              refine lv_goto (tgt := 114) hx hb dM_cards_88 (by decide) ?_
              exact mm_lret (S := (0, ks, kc, rn, oc, hd, hs, se, bd, (nI b), dk, dp, ct, bo, wi, sh, lf, lc, mo, ah)) hx hb hr hlk dM_cards_114 hP hSS (by exact ⟨by subst ex17 ex16; (try simp only [k_bset, if_neg hc1, if_pos hc13, if_neg hc18, if_pos hc23]) <;> rfl, by subst ex17 ex16; (try simp only [k_bset, if_neg hc1, if_pos hc13, if_neg hc18, if_pos hc23]) <;> rfl⟩)
        · exact absurd hc21 hc1
set_option maxHeartbeats 4000000 in
set_option maxRecDepth 100000 in
theorem cM_isEmpty (l : Launch) (g : mo_E) (th : Int32) (ks : Nat → Int32) (kc : Int32) (rn : Nat → Int32) (oc : Nat → Int32) (hd : Nat → Int32) (hs : Int32) (se : Nat → Int32) (bd : Nat → Int32) (bs : Int32) (dk : Nat → Int32) (dp : Int32) (ct : Int32) (bo : Int32) (wi : Nat → Int32) (sh : Nat → Int32) (lf : Nat → Int32) (lc : Int32) (mo : Int32) (ah : Int32)   (hap : mo_ap g)  : mm_M l yM_isEmpty bM_isEmpty 3 (some .boolean) 0 [.ref (g.2.2 0)] g (th, ks, kc, rn, oc, hd, hs, se, bd, bs, dk, dp, ct, bo, wi, sh, lf, lc, mo, ah) (fun v9 S9 => v9 = some (.int (k_empty se)) ∧ S9 = (th, ks, kc, rn, oc, hd, hs, se, bd, bs, dk, dp, ct, bo, wi, sh, lf, lc, mo, ah)) := by
  refine Met.ofW (cc := bM_isEmpty) (maxL := 3) (ret := (some .boolean)) (by decide) rfl ?_
  intro p e s m args below meth c s₁ BB hml hv
  obtain ⟨rfl, hB⟩ := hv
  have hx := BB.exec
  have hb := BB.bytes
  have hr := BB.returns
  have hlk := BB.notSynchronized
  have hts := atoms_spec (ws := wd yM_isEmpty bM_isEmpty 3 (some .boolean)) BB.pre
  have hown : s.vm.findClass "HandTablesModel" = some m.cls := findClass_of_methodNamed BB.named
  have hS : CallFix p m c bM_isEmpty 3 s _ (wd yM_isEmpty bM_isEmpty 3 (some .boolean)) "HandTablesModel" := ⟨hx, hb, hml, hown, hts⟩
  obtain ⟨hP, hK⟩ := hB
  have hP : va_P g.1 cl_X (mo_V g th ks kc rn oc hd hs se bd bs dk dp ct bo wi sh lf lc mo ah) s.heap := hP
  have hSS : va_S (mo_fr g) s.heap s.heap [] := va_S.rf
  have hl := lv_entry ([.ref (g.2.2 0)]) (n := 3) (Nat.le_of_ble_eq_true rfl)
  rw [lg_entry_eq]
  generalize (lg_sl ([.ref (g.2.2 0)]) ++ List.replicate (3 - (lg_sl ([.ref (g.2.2 0)])).length) Slot.unset).toArray = ls at hl ⊢
  have hl : lv_has ls 3 [(0, .ref (g.2.2 0))] := hl
  obtain ⟨H, eH⟩ : ∃ H, s.heap = H := ⟨_, rfl⟩
  obtain ⟨locs, eL⟩ : ∃ L, ([] : List Loc) = L := ⟨_, rfl⟩
  have hP : va_P g.1 cl_X (mo_V g th ks kc rn oc hd hs se bd bs dk dp ct bo wi sh lf lc mo ah) H := by rw [← eH]; exact hP
  have hSS : va_S (mo_fr g) s.heap H locs := by rw [← eH, ← eL]; exact hSS
  refine mm_go eH eL ?_
  clear eH eL
  refine lv_iconst (v := 1) hx hb dM_isEmpty_0 (by decide) ?_
  refine jt_topi (fun x1 ex1 => ?_)
  refine lv_istore_n (lv' := [(1, .int x1), (0, .ref (g.2.2 0))]) hx hb dM_isEmpty_1 rfl hl (by decide) rfl (fun ls hl => ?_)
  refine lv_iconst (v := 0) hx hb dM_isEmpty_2 (by decide) ?_
  refine jt_topi (fun x2 ex2 => ?_)
  refine lv_istore_n (lv' := [(2, .int x2), (1, .int x1), (0, .ref (g.2.2 0))]) hx hb dM_isEmpty_3 rfl hl (by decide) rfl (fun ls hl => ?_)
  have hloop : ∀ (n : Nat) (a : Int32)   (H : Heap) (locs : List Loc) (ls : Array Slot), lv_has ls 3 [(2, .int (nI (6 - n))), (1, .int a), (0, .ref (g.2.2 0))] → va_P g.1 cl_X (mo_V g th ks kc rn oc hd hs se bd bs dk dp ct bo wi sh lf lc mo ah) H → va_S (mo_fr g) s.heap H locs → (n ≤ 6) → (∀  (H : Heap) (locs : List Loc) (ls : Array Slot), lv_has ls 3 [(1, .int (ke_lp se n a))] → va_P g.1 cl_X (mo_V g th ks kc rn oc hd hs se bd bs dk dp ct bo wi sh lf lc mo ah) H → va_S (mo_fr g) s.heap H locs → W p l e (headSpec (wd yM_isEmpty bM_isEmpty 3 (some .boolean)) (rmD 0 0 0)).room s m ([.ref (g.2.2 0)]).toArray below meth c H locs 0 0 (MQ below (mm_Q g (fun v9 S9 => v9 = some (.int (k_empty se)) ∧ S9 = (th, ks, kc, rn, oc, hd, hs, se, bd, bs, dk, dp, ct, bo, wi, sh, lf, lc, mo, ah))) ([.ref (g.2.2 0)]).toArray s 0 0 (mo_fr g)) (F0 m 38 ls [])) → W p l e (headSpec (wd yM_isEmpty bM_isEmpty 3 (some .boolean)) (rmD 0 0 0)).room s m ([.ref (g.2.2 0)]).toArray below meth c H locs 0 0 (MQ below (mm_Q g (fun v9 S9 => v9 = some (.int (k_empty se)) ∧ S9 = (th, ks, kc, rn, oc, hd, hs, se, bd, bs, dk, dp, ct, bo, wi, sh, lf, lc, mo, ah))) ([.ref (g.2.2 0)]).toArray s 0 0 (mo_fr g)) (F0 m 4 ls []) := by
    intro n
    induction n with
    | zero =>
      intro a   H locs ls hl hP hSS hn K
      refine lv_iload_n hx hb dM_isEmpty_4 rfl (lv_at hl 0 rfl) ?_
      refine lv_bipush (v := 6) hx hb dM_isEmpty_5 (by decide) ?_
      refine lv_icmp_ge (tgt := 38) hx hb dM_isEmpty_7 (by decide) (fun hc4 => ?_) (fun hc4 => ?_)
      · have hlB := lv_sub hl [1] rfl
        have hPB := hP
        have hSB := hSS
        simp only [ke_lp] at K
        exact K  _ _ _ hlB hPB hSB 
      · exact absurd (by decide) hc4
    | succ n ih =>
      intro a   H locs ls hl hP hSS hn K
      refine lv_iload_n hx hb dM_isEmpty_4 rfl (lv_at hl 0 rfl) ?_
      refine lv_bipush (v := 6) hx hb dM_isEmpty_5 (by decide) ?_
      refine lv_icmp_ge (tgt := 38) hx hb dM_isEmpty_7 (by decide) (fun hc5 => ?_) (fun hc5 => ?_)
      · exact absurd hc5 (nI_ge (b := 6) (by omega) (by decide))
      · refine lv_iload_n hx hb dM_isEmpty_10 rfl (lv_at hl 1 rfl) ?_
        refine lv_if_eq (tgt := 30) hx hb dM_isEmpty_11 (by decide) (fun hc6 => ?_) (fun hc6 => ?_)
        · refine lv_iconst (v := 0) hx hb dM_isEmpty_30 (by decide) ?_
          refine jt_topi (fun x7 ex7 => ?_)
          refine lv_istore_n (lv' := [(1, .int x7), (2, .int (nI (6 - (n + 1)))), (0, .ref (g.2.2 0))]) hx hb dM_isEmpty_31 rfl hl (by decide) rfl (fun ls hl => ?_)
          refine jv_iinc (a := 1) hx hb dM_isEmpty_32 hl (k := 1) rfl (by decide) (by decide) (fun x8 ex8 ls hl => ?_)
          have hl : lv_has ls 3 [(2, .int x8), (1, .int x7), (0, .ref (g.2.2 0))] := hl
          refine lv_goto (tgt := 4) hx hb dM_isEmpty_35 (by decide) ?_
          rw [nI_up (by omega)] at ex8
          have hlB := lv_sub hl [0, 1, 2] rfl
          have hPB := hP
          have hSB := hSS
          subst ex8 ex7
          simp only [ke_lp, if_pos hc6] at K
          exact ih _   _ _ _ hlB hPB hSB (by omega) K
        · refine lv_aload_n hx hb dM_isEmpty_14 rfl (lv_at hl 2 rfl) ?_
          refine va_get (D := g.1) (ci := 1) (v := .ref (g.2.2 5)) (C := "HandTablesModel") (T := T_M) (N := 20) hx hb hts (fun w hw => wd_in (u_inM w hw)) hown hK hP 0 rfl rfl 7 (by decide) (hts _ (wd_in (gw_mem 464 rfl rfl))) (fun _ h => h) rfl dM_isEmpty_15 ?_
          refine lv_iconst (v := 2) hx hb dM_isEmpty_18 (by decide) ?_
          refine lv_iload_n hx hb dM_isEmpty_19 rfl (lv_at hl 0 rfl) ?_
          refine lv_imul hx hb dM_isEmpty_20 ?_
          refine va_iald hx hb hK hP 5 0 rfl rfl (k_2n (by omega)) dM_isEmpty_21 ?_
          refine lv_iconst (v := (-1)) hx hb dM_isEmpty_22 (by decide) ?_
          refine lv_icmp_ne (tgt := 30) hx hb dM_isEmpty_23 (by decide) (fun hc9 => ?_) (fun hc9 => ?_)
          · refine lv_iconst (v := 0) hx hb dM_isEmpty_30 (by decide) ?_
            refine jt_topi (fun x10 ex10 => ?_)
            refine lv_istore_n (lv' := [(1, .int x10), (2, .int (nI (6 - (n + 1)))), (0, .ref (g.2.2 0))]) hx hb dM_isEmpty_31 rfl hl (by decide) rfl (fun ls hl => ?_)
            refine jv_iinc (a := 1) hx hb dM_isEmpty_32 hl (k := 1) rfl (by decide) (by decide) (fun x11 ex11 ls hl => ?_)
            have hl : lv_has ls 3 [(2, .int x11), (1, .int x10), (0, .ref (g.2.2 0))] := hl
            refine lv_goto (tgt := 4) hx hb dM_isEmpty_35 (by decide) ?_
            rw [nI_up (by omega)] at ex11
            have hlB := lv_sub hl [0, 1, 2] rfl
            have hPB := hP
            have hSB := hSS
            subst ex11 ex10
            simp only [ke_lp, if_neg hc6, if_neg hc9] at K
            exact ih _   _ _ _ hlB hPB hSB (by omega) K
          · refine lv_iconst (v := 1) hx hb dM_isEmpty_26 (by decide) ?_
            refine lv_goto (tgt := 31) hx hb dM_isEmpty_27 (by decide) ?_
            refine jt_topi (fun x12 ex12 => ?_)
            refine lv_istore_n (lv' := [(1, .int x12), (2, .int (nI (6 - (n + 1)))), (0, .ref (g.2.2 0))]) hx hb dM_isEmpty_31 rfl hl (by decide) rfl (fun ls hl => ?_)
            refine jv_iinc (a := 1) hx hb dM_isEmpty_32 hl (k := 1) rfl (by decide) (by decide) (fun x13 ex13 ls hl => ?_)
            have hl : lv_has ls 3 [(2, .int x13), (1, .int x12), (0, .ref (g.2.2 0))] := hl
            refine lv_goto (tgt := 4) hx hb dM_isEmpty_35 (by decide) ?_
            rw [nI_up (by omega)] at ex13
            have hlB := lv_sub hl [0, 1, 2] rfl
            have hPB := hP
            have hSB := hSS
            subst ex13 ex12
            simp only [ke_lp, if_neg hc6, if_pos hc9] at K
            exact ih _   _ _ _ hlB hPB hSB (by omega) K
  refine hloop 6 x1   _ _ ls (by have h9 := lv_sub hl [0, 1, 2] rfl; subst ex2; exact h9) hP hSS (by decide) (fun  H locs ls hl hP hSS  => ?_)
  clear hloop
  obtain ⟨y14, ey14⟩ : ∃ z, (ke_lp se 6 x1) = z := ⟨_, rfl⟩
  rw [ey14] at hl
  refine lv_iload_n hx hb dM_isEmpty_38 rfl (lv_at hl 0 rfl) ?_
  exact mm_zret (S := (th, ks, kc, rn, oc, hd, hs, se, bd, bs, dk, dp, ct, bo, wi, sh, lf, lc, mo, ah)) hx hb hr hlk dM_isEmpty_39 (by subst_vars; exact ke_01 se 6 1 (Or.inr rfl)) hP hSS (by exact ⟨by subst ey14 ex2 ex1; (try simp only [k_empty]) <;> rfl, by subst ey14 ex2 ex1; (try simp only [k_empty]) <;> rfl⟩)
set_option maxHeartbeats 4000000 in
set_option maxRecDepth 100000 in
theorem cM_findLeft (l : Launch) (g : mo_E) (th : Int32) (ks : Nat → Int32) (kc : Int32) (rn : Nat → Int32) (oc : Nat → Int32) (hd : Nat → Int32) (hs : Int32) (se : Nat → Int32) (bd : Nat → Int32) (b : Nat) (dk : Nat → Int32) (dp : Int32) (ct : Int32) (bo : Int32) (wi : Nat → Int32) (sh : Nat → Int32) (lf : Nat → Int32) (lc : Int32) (mo : Int32) (ah : Int32)   (hap : mo_ap g) (hb5 : b ≤ 5) : mm_M l yM_findLeft bM_findLeft 2 none 1 [.ref (g.2.2 0)] g (th, ks, kc, rn, oc, hd, hs, se, bd, (nI b), dk, dp, ct, bo, wi, sh, lf, lc, mo, ah) (fun v9 S9 => v9 = none ∧ S9 = (th, ks, kc, rn, oc, hd, hs, se, bd, (nI b), dk, dp, ct, bo, wi, sh, (k_left se bd b lf).2, (k_left se bd b lf).1, mo, ah)) := by
  refine Met.ofW (cc := bM_findLeft) (maxL := 2) (ret := none) (by decide) rfl ?_
  intro p e s m args below meth c s₁ BB hml hv
  obtain ⟨rfl, hB⟩ := hv
  have hx := BB.exec
  have hb := BB.bytes
  have hr := BB.returns
  have hlk := BB.notSynchronized
  have hts := atoms_spec (ws := wd yM_findLeft bM_findLeft 2 none) BB.pre
  have hown : s.vm.findClass "HandTablesModel" = some m.cls := findClass_of_methodNamed BB.named
  have hS : CallFix p m c bM_findLeft 2 s _ (wd yM_findLeft bM_findLeft 2 none) "HandTablesModel" := ⟨hx, hb, hml, hown, hts⟩
  obtain ⟨hP, hK⟩ := hB
  have hP : va_P g.1 cl_X (mo_V g th ks kc rn oc hd hs se bd (nI b) dk dp ct bo wi sh lf lc mo ah) s.heap := hP
  have hSS : va_S (mo_fr g) s.heap s.heap [] := va_S.rf
  have hl := lv_entry ([.ref (g.2.2 0)]) (n := 2) (Nat.le_of_ble_eq_true rfl)
  rw [lg_entry_eq]
  generalize (lg_sl ([.ref (g.2.2 0)]) ++ List.replicate (2 - (lg_sl ([.ref (g.2.2 0)])).length) Slot.unset).toArray = ls at hl ⊢
  have hl : lv_has ls 2 [(0, .ref (g.2.2 0))] := hl
  obtain ⟨H, eH⟩ : ∃ H, s.heap = H := ⟨_, rfl⟩
  obtain ⟨locs, eL⟩ : ∃ L, ([] : List Loc) = L := ⟨_, rfl⟩
  have hP : va_P g.1 cl_X (mo_V g th ks kc rn oc hd hs se bd (nI b) dk dp ct bo wi sh lf lc mo ah) H := by rw [← eH]; exact hP
  have hSS : va_S (mo_fr g) s.heap H locs := by rw [← eH, ← eL]; exact hSS
  refine mm_go eH eL ?_
  clear eH eL
  refine lv_aload_n hx hb dM_findLeft_0 rfl (lv_at hl 0 rfl) ?_
  refine lv_iconst (v := 0) hx hb dM_findLeft_1 (by decide) ?_
  refine va_put (D := g.1) (ci := 1) (v := .int 0) (ty := .int) (C := "HandTablesModel") (T := T_M) (N := 20) hx hb hts (fun w hw => wd_in (u_inM w hw)) tf_M tf_M_ok n_M hown hK hP (mo_D hap) hSS 0 rfl rfl 17 (by decide) (hts _ (wd_in (gw_mem 474 rfl rfl))) (fun _ h => h) rfl (by decide +kernel) rfl rfl (Nat.le_of_ble_eq_true rfl) dM_findLeft_2 (fun H locs hP _ hSS => ?_)
  have hP : va_P g.1 cl_X (mo_V g th ks kc rn oc hd hs se bd (nI b) dk dp ct bo wi sh lf 0 mo ah) H := hP
  refine lv_iconst (v := 0) hx hb dM_findLeft_5 (by decide) ?_
  refine jt_topi (fun x1 ex1 => ?_)
  refine lv_istore_n (lv' := [(1, .int x1), (0, .ref (g.2.2 0))]) hx hb dM_findLeft_6 rfl hl (by decide) rfl (fun ls hl => ?_)
  have hloop : ∀ (n : Nat)   (wlf2 : Nat → Int32) (wlc2 : Int32) (H : Heap) (locs : List Loc) (ls : Array Slot), lv_has ls 2 [(1, .int (nI (52 - n))), (0, .ref (g.2.2 0))] → va_P g.1 cl_X (mo_V g th ks kc rn oc hd hs se bd (nI b) dk dp ct bo wi sh wlf2 wlc2 mo ah) H → va_S (mo_fr g) s.heap H locs → (n ≤ 52) → (∃ j, wlc2 = nI j ∧ j + n ≤ 52) → (∀  (H : Heap) (locs : List Loc) (ls : Array Slot), lv_has ls 2 [(0, .ref (g.2.2 0))] → va_P g.1 cl_X (mo_V g th ks kc rn oc hd hs se bd (nI b) dk dp ct bo wi sh ((kf_lp se bd b n wlc2 wlf2).2) ((kf_lp se bd b n wlc2 wlf2).1) mo ah) H → va_S (mo_fr g) s.heap H locs → W p l e (headSpec (wd yM_findLeft bM_findLeft 2 none) (rmD 1 0 0)).room s m ([.ref (g.2.2 0)]).toArray below meth c H locs 0 0 (MQ below (mm_Q g (fun v9 S9 => v9 = none ∧ S9 = (th, ks, kc, rn, oc, hd, hs, se, bd, (nI b), dk, dp, ct, bo, wi, sh, (k_left se bd b lf).2, (k_left se bd b lf).1, mo, ah))) ([.ref (g.2.2 0)]).toArray s 0 0 (mo_fr g)) (F0 m 48 ls [])) → W p l e (headSpec (wd yM_findLeft bM_findLeft 2 none) (rmD 1 0 0)).room s m ([.ref (g.2.2 0)]).toArray below meth c H locs 0 0 (MQ below (mm_Q g (fun v9 S9 => v9 = none ∧ S9 = (th, ks, kc, rn, oc, hd, hs, se, bd, (nI b), dk, dp, ct, bo, wi, sh, (k_left se bd b lf).2, (k_left se bd b lf).1, mo, ah))) ([.ref (g.2.2 0)]).toArray s 0 0 (mo_fr g)) (F0 m 7 ls []) := by
    intro n
    induction n with
    | zero =>
      intro   wlf2 wlc2 H locs ls hl hP hSS hn hz K
      refine lv_iload_n hx hb dM_findLeft_7 rfl (lv_at hl 0 rfl) ?_
      refine lv_bipush (v := 52) hx hb dM_findLeft_8 (by decide) ?_
      refine lv_icmp_ge (tgt := 48) hx hb dM_findLeft_10 (by decide) (fun hc3 => ?_) (fun hc3 => ?_)
      · have hlB := lv_sub hl [1] rfl
        have hPB := hP
        have hSB := hSS
        simp only [kf_lp] at K
        exact K  _ _ _ hlB hPB hSB 
      · exact absurd (by decide) hc3
    | succ n ih =>
      intro   wlf2 wlc2 H locs ls hl hP hSS hn hz K
      obtain ⟨j, hj, hj2⟩ := hz
      refine lv_iload_n hx hb dM_findLeft_7 rfl (lv_at hl 0 rfl) ?_
      refine lv_bipush (v := 52) hx hb dM_findLeft_8 (by decide) ?_
      refine lv_icmp_ge (tgt := 48) hx hb dM_findLeft_10 (by decide) (fun hc4 => ?_) (fun hc4 => ?_)
      · exact absurd hc4 (nI_ge (b := 52) (by omega) (by decide))
      · refine lv_aload_n hx hb dM_findLeft_13 rfl (lv_at hl 1 rfl) ?_
        refine lv_iload_n hx hb dM_findLeft_14 rfl (lv_at hl 0 rfl) ?_
        refine lv_iconst (v := (-1)) hx hb dM_findLeft_15 (by decide) ?_
        refine mm_V (cM_stands l g th ks kc rn oc hd hs se bd b dk dp ct bo wi sh wlf2 wlc2 mo ah (nI (52 - (n + 1))) (-1) hap hb5) rfl kM_M_stands hS hK hP ⟨Nat.le_of_ble_eq_true rfl, Nat.le_of_ble_eq_true rfl⟩ hl.1 rfl (Nat.le_of_ble_eq_true rfl) ⟨Nat.zero_le _, Nat.zero_le _⟩ dM_findLeft_16 hSS (fun v9 S9 H locs hR hP hSS => ?_)
        obtain ⟨rfl, rfl⟩ := hR
        have hP : va_P g.1 cl_X (mo_V g th ks kc rn oc hd hs se bd (nI b) dk dp ct bo wi sh wlf2 wlc2 mo ah) H := hP
        refine lv_if_ne (tgt := 42) hx hb dM_findLeft_19 (by decide) (fun hc5 => ?_) (fun hc5 => ?_)
        · refine jv_iinc (a := 1) hx hb dM_findLeft_42 hl (k := 0) rfl (by decide) (by decide) (fun x6 ex6 ls hl => ?_)
          have hl : lv_has ls 2 [(1, .int x6), (0, .ref (g.2.2 0))] := hl
          refine lv_goto (tgt := 7) hx hb dM_findLeft_45 (by decide) ?_
          rw [nI_up (by omega)] at ex6
          have hlB := lv_sub hl [0, 1] rfl
          have hPB := hP
          have hSB := hSS
          subst ex6
          simp only [kf_lp, if_neg hc5] at K
          exact ih   _ _ _ _ _ hlB hPB hSB (by omega) ⟨j, hj, by omega⟩ K
        · refine lv_aload_n hx hb dM_findLeft_22 rfl (lv_at hl 1 rfl) ?_
          refine va_get (D := g.1) (ci := 1) (v := .ref (g.2.2 10)) (C := "HandTablesModel") (T := T_M) (N := 20) hx hb hts (fun w hw => wd_in (u_inM w hw)) hown hK hP 0 rfl rfl 16 (by decide) (hts _ (wd_in (gw_mem 473 rfl rfl))) (fun _ h => h) rfl dM_findLeft_23 ?_
          refine lv_aload_n hx hb dM_findLeft_26 rfl (lv_at hl 1 rfl) ?_
          refine va_get (D := g.1) (ci := 1) (v := .int wlc2) (C := "HandTablesModel") (T := T_M) (N := 20) hx hb hts (fun w hw => wd_in (u_inM w hw)) hown hK hP 0 rfl rfl 17 (by decide) (hts _ (wd_in (gw_mem 474 rfl rfl))) (fun _ h => h) rfl dM_findLeft_27 ?_
          refine lv_iload_n hx hb dM_findLeft_30 rfl (lv_at hl 0 rfl) ?_
          refine va_iast (x := (nI (52 - (n + 1)))) hx hb hK hP (mo_D hap) hSS 10 0 rfl rfl (by rw [hj]; exact vp_in_nI (by omega) (by decide)) dM_findLeft_31 (fun H locs hP _ hSS => ?_)
          have hP : va_P g.1 cl_X (mo_V g th ks kc rn oc hd hs se bd (nI b) dk dp ct bo wi sh (upd wlf2 (wlc2 : Int32).toNatClampNeg (nI (52 - (n + 1)))) wlc2 mo ah) H := hP
          refine lv_aload_n hx hb dM_findLeft_32 rfl (lv_at hl 1 rfl) ?_
          refine lv_dup hx hb dM_findLeft_33 rfl ?_
          refine va_get (D := g.1) (ci := 1) (v := .int wlc2) (C := "HandTablesModel") (T := T_M) (N := 20) hx hb hts (fun w hw => wd_in (u_inM w hw)) hown hK hP 0 rfl rfl 17 (by decide) (hts _ (wd_in (gw_mem 474 rfl rfl))) (fun _ h => h) rfl dM_findLeft_34 ?_
          refine lv_iconst (v := 1) hx hb dM_findLeft_37 (by decide) ?_
          refine lv_iadd hx hb dM_findLeft_38 ?_
          refine va_put (D := g.1) (ci := 1) (v := .int (wlc2 + 1)) (ty := .int) (C := "HandTablesModel") (T := T_M) (N := 20) hx hb hts (fun w hw => wd_in (u_inM w hw)) tf_M tf_M_ok n_M hown hK hP (mo_D hap) hSS 0 rfl rfl 17 (by decide) (hts _ (wd_in (gw_mem 474 rfl rfl))) (fun _ h => h) rfl (by decide +kernel) rfl rfl (Nat.le_of_ble_eq_true rfl) dM_findLeft_39 (fun H locs hP _ hSS => ?_)
          have hP : va_P g.1 cl_X (mo_V g th ks kc rn oc hd hs se bd (nI b) dk dp ct bo wi sh (upd wlf2 (wlc2 : Int32).toNatClampNeg (nI (52 - (n + 1)))) (wlc2 + 1) mo ah) H := hP
          refine jv_iinc (a := 1) hx hb dM_findLeft_42 hl (k := 0) rfl (by decide) (by decide) (fun x7 ex7 ls hl => ?_)
          have hl : lv_has ls 2 [(1, .int x7), (0, .ref (g.2.2 0))] := hl
          refine lv_goto (tgt := 7) hx hb dM_findLeft_45 (by decide) ?_
          rw [nI_up (by omega)] at ex7
          have hlB := lv_sub hl [0, 1] rfl
          have hPB := hP
          have hSB := hSS
          subst ex7
          simp only [kf_lp, if_pos hc5] at K
          exact ih   _ _ _ _ _ hlB hPB hSB (by omega) ⟨j + 1, by rw [hj, nI_1], by omega⟩ K
  refine hloop 52   lf 0 _ _ ls (by have h9 := lv_sub hl [0, 1] rfl; subst ex1; exact h9) hP hSS (by decide) ⟨0, rfl, by omega⟩ (fun  H locs ls hl hP hSS  => ?_)
  clear hloop
  exact mm_vret (S := (th, ks, kc, rn, oc, hd, hs, se, bd, (nI b), dk, dp, ct, bo, wi, sh, (kf_lp se bd b 52 0 lf).2, (kf_lp se bd b 52 0 lf).1, mo, ah)) hx hb hr hlk dM_findLeft_48 hP hSS (by exact ⟨by subst ex1; (try simp only []) <;> rfl, by subst ex1; (try simp only []) <;> rfl⟩)
set_option maxHeartbeats 4000000 in
set_option maxRecDepth 100000 in
theorem cM_freshDeck (l : Launch) (g : mo_E) (th : Int32) (ks : Nat → Int32) (kc : Int32) (rn : Nat → Int32) (oc : Nat → Int32) (hd : Nat → Int32) (hs : Int32) (se : Nat → Int32) (bd : Nat → Int32) (bs : Int32) (dk : Nat → Int32) (dp : Int32) (ct : Int32) (bo : Int32) (wi : Nat → Int32) (sh : Nat → Int32) (lf : Nat → Int32) (lc : Int32) (mo : Int32) (ah : Int32)   (hap : mo_ap g)  : mm_M l yM_freshDeck bM_freshDeck 2 none 0 [.ref (g.2.2 0)] g (th, ks, kc, rn, oc, hd, hs, se, bd, bs, dk, dp, ct, bo, wi, sh, lf, lc, mo, ah) (fun v9 S9 => v9 = none ∧ S9 = (th, ks, kc, rn, oc, hd, hs, se, bd, bs, (k_fresh dk), 0, ct, bo, wi, sh, lf, lc, mo, ah)) := by
  refine Met.ofW (cc := bM_freshDeck) (maxL := 2) (ret := none) (by decide) rfl ?_
  intro p e s m args below meth c s₁ BB hml hv
  obtain ⟨rfl, hB⟩ := hv
  have hx := BB.exec
  have hb := BB.bytes
  have hr := BB.returns
  have hlk := BB.notSynchronized
  have hts := atoms_spec (ws := wd yM_freshDeck bM_freshDeck 2 none) BB.pre
  have hown : s.vm.findClass "HandTablesModel" = some m.cls := findClass_of_methodNamed BB.named
  have hS : CallFix p m c bM_freshDeck 2 s _ (wd yM_freshDeck bM_freshDeck 2 none) "HandTablesModel" := ⟨hx, hb, hml, hown, hts⟩
  obtain ⟨hP, hK⟩ := hB
  have hP : va_P g.1 cl_X (mo_V g th ks kc rn oc hd hs se bd bs dk dp ct bo wi sh lf lc mo ah) s.heap := hP
  have hSS : va_S (mo_fr g) s.heap s.heap [] := va_S.rf
  have hl := lv_entry ([.ref (g.2.2 0)]) (n := 2) (Nat.le_of_ble_eq_true rfl)
  rw [lg_entry_eq]
  generalize (lg_sl ([.ref (g.2.2 0)]) ++ List.replicate (2 - (lg_sl ([.ref (g.2.2 0)])).length) Slot.unset).toArray = ls at hl ⊢
  have hl : lv_has ls 2 [(0, .ref (g.2.2 0))] := hl
  obtain ⟨H, eH⟩ : ∃ H, s.heap = H := ⟨_, rfl⟩
  obtain ⟨locs, eL⟩ : ∃ L, ([] : List Loc) = L := ⟨_, rfl⟩
  have hP : va_P g.1 cl_X (mo_V g th ks kc rn oc hd hs se bd bs dk dp ct bo wi sh lf lc mo ah) H := by rw [← eH]; exact hP
  have hSS : va_S (mo_fr g) s.heap H locs := by rw [← eH, ← eL]; exact hSS
  refine mm_go eH eL ?_
  clear eH eL
  refine lv_iconst (v := 0) hx hb dM_freshDeck_0 (by decide) ?_
  refine jt_topi (fun x1 ex1 => ?_)
  refine lv_istore_n (lv' := [(1, .int x1), (0, .ref (g.2.2 0))]) hx hb dM_freshDeck_1 rfl hl (by decide) rfl (fun ls hl => ?_)
  have hloop : ∀ (n : Nat)   (wdk2 : Nat → Int32) (H : Heap) (locs : List Loc) (ls : Array Slot), lv_has ls 2 [(1, .int (nI (52 - n))), (0, .ref (g.2.2 0))] → va_P g.1 cl_X (mo_V g th ks kc rn oc hd hs se bd bs wdk2 dp ct bo wi sh lf lc mo ah) H → va_S (mo_fr g) s.heap H locs → (n ≤ 52) → (∀  (H : Heap) (locs : List Loc) (ls : Array Slot), lv_has ls 2 [(0, .ref (g.2.2 0))] → va_P g.1 cl_X (mo_V g th ks kc rn oc hd hs se bd bs (kk_lp n wdk2) dp ct bo wi sh lf lc mo ah) H → va_S (mo_fr g) s.heap H locs → W p l e (headSpec (wd yM_freshDeck bM_freshDeck 2 none) (rmD 0 0 0)).room s m ([.ref (g.2.2 0)]).toArray below meth c H locs 0 0 (MQ below (mm_Q g (fun v9 S9 => v9 = none ∧ S9 = (th, ks, kc, rn, oc, hd, hs, se, bd, bs, (k_fresh dk), 0, ct, bo, wi, sh, lf, lc, mo, ah))) ([.ref (g.2.2 0)]).toArray s 0 0 (mo_fr g)) (F0 m 21 ls [])) → W p l e (headSpec (wd yM_freshDeck bM_freshDeck 2 none) (rmD 0 0 0)).room s m ([.ref (g.2.2 0)]).toArray below meth c H locs 0 0 (MQ below (mm_Q g (fun v9 S9 => v9 = none ∧ S9 = (th, ks, kc, rn, oc, hd, hs, se, bd, bs, (k_fresh dk), 0, ct, bo, wi, sh, lf, lc, mo, ah))) ([.ref (g.2.2 0)]).toArray s 0 0 (mo_fr g)) (F0 m 2 ls []) := by
    intro n
    induction n with
    | zero =>
      intro   wdk2 H locs ls hl hP hSS hn K
      refine lv_iload_n hx hb dM_freshDeck_2 rfl (lv_at hl 0 rfl) ?_
      refine lv_bipush (v := 52) hx hb dM_freshDeck_3 (by decide) ?_
      refine lv_icmp_ge (tgt := 21) hx hb dM_freshDeck_5 (by decide) (fun hc3 => ?_) (fun hc3 => ?_)
      · have hlB := lv_sub hl [1] rfl
        have hPB := hP
        have hSB := hSS
        simp only [kk_lp] at K
        exact K  _ _ _ hlB hPB hSB 
      · exact absurd (by decide) hc3
    | succ n ih =>
      intro   wdk2 H locs ls hl hP hSS hn K
      refine lv_iload_n hx hb dM_freshDeck_2 rfl (lv_at hl 0 rfl) ?_
      refine lv_bipush (v := 52) hx hb dM_freshDeck_3 (by decide) ?_
      refine lv_icmp_ge (tgt := 21) hx hb dM_freshDeck_5 (by decide) (fun hc4 => ?_) (fun hc4 => ?_)
      · exact absurd hc4 (nI_ge (b := 52) (by omega) (by decide))
      · refine lv_aload_n hx hb dM_freshDeck_8 rfl (lv_at hl 1 rfl) ?_
        refine va_get (D := g.1) (ci := 1) (v := .ref (g.2.2 7)) (C := "HandTablesModel") (T := T_M) (N := 20) hx hb hts (fun w hw => wd_in (u_inM w hw)) hown hK hP 0 rfl rfl 10 (by decide) (hts _ (wd_in (gw_mem 467 rfl rfl))) (fun _ h => h) rfl dM_freshDeck_9 ?_
        refine lv_iload_n hx hb dM_freshDeck_12 rfl (lv_at hl 0 rfl) ?_
        refine lv_iload_n hx hb dM_freshDeck_13 rfl (lv_at hl 0 rfl) ?_
        refine va_iast (x := (nI (52 - (n + 1)))) hx hb hK hP (mo_D hap) hSS 7 0 rfl rfl (vp_in_nI (by omega) (by decide)) dM_freshDeck_14 (fun H locs hP _ hSS => ?_)
        have hP : va_P g.1 cl_X (mo_V g th ks kc rn oc hd hs se bd bs (upd wdk2 ((nI (52 - (n + 1))) : Int32).toNatClampNeg (nI (52 - (n + 1)))) dp ct bo wi sh lf lc mo ah) H := hP
        refine jv_iinc (a := 1) hx hb dM_freshDeck_15 hl (k := 0) rfl (by decide) (by decide) (fun x5 ex5 ls hl => ?_)
        have hl : lv_has ls 2 [(1, .int x5), (0, .ref (g.2.2 0))] := hl
        refine lv_goto (tgt := 2) hx hb dM_freshDeck_18 (by decide) ?_
        rw [nI_up (by omega)] at ex5
        have hlB := lv_sub hl [0, 1] rfl
        have hPB := hP
        have hSB := hSS
        subst ex5
        simp only [kk_lp] at K
        exact ih   _ _ _ _ hlB hPB hSB (by omega) K
  refine hloop 52   dk _ _ ls (by have h9 := lv_sub hl [0, 1] rfl; subst ex1; exact h9) hP hSS (by decide) (fun  H locs ls hl hP hSS  => ?_)
  clear hloop
  refine lv_aload_n hx hb dM_freshDeck_21 rfl (lv_at hl 0 rfl) ?_
  refine lv_iconst (v := 0) hx hb dM_freshDeck_22 (by decide) ?_
  refine va_put (D := g.1) (ci := 1) (v := .int 0) (ty := .int) (C := "HandTablesModel") (T := T_M) (N := 20) hx hb hts (fun w hw => wd_in (u_inM w hw)) tf_M tf_M_ok n_M hown hK hP (mo_D hap) hSS 0 rfl rfl 11 (by decide) (hts _ (wd_in (gw_mem 468 rfl rfl))) (fun _ h => h) rfl (by decide +kernel) rfl rfl (Nat.le_of_ble_eq_true rfl) dM_freshDeck_23 (fun H locs hP _ hSS => ?_)
  have hP : va_P g.1 cl_X (mo_V g th ks kc rn oc hd hs se bd bs (kk_lp 52 dk) 0 ct bo wi sh lf lc mo ah) H := hP
  exact mm_vret (S := (th, ks, kc, rn, oc, hd, hs, se, bd, bs, (kk_lp 52 dk), 0, ct, bo, wi, sh, lf, lc, mo, ah)) hx hb hr hlk dM_freshDeck_26 hP hSS (by exact ⟨by subst ex1; (try simp only []) <;> rfl, by subst ex1; (try simp only []) <;> rfl⟩)
set_option maxHeartbeats 4000000 in
set_option maxRecDepth 100000 in
theorem cM_shuffle (l : Launch) (g : mo_E) (th : Int32) (ks : Nat → Int32) (kc : Int32) (rn : Nat → Int32) (oc : Nat → Int32) (hd : Nat → Int32) (hs : Int32) (se : Nat → Int32) (bd : Nat → Int32) (bs : Int32) (dk : Nat → Int32) (dp : Int32) (ct : Int32) (bo : Int32) (wi : Nat → Int32) (sh : Nat → Int32) (lf : Nat → Int32) (lc : Int32) (mo : Int32) (ah : Int32) (q : Int32)  (hap : mo_ap g)  : mm_M l yM_shuffle bM_shuffle 6 none 1 [.ref (g.2.2 0), .int q] g (th, ks, kc, rn, oc, hd, hs, se, bd, bs, dk, dp, ct, bo, wi, sh, lf, lc, mo, ah) (fun v9 S9 => v9 = none ∧ S9 = (0, ks, kc, rn, oc, hd, hs, se, bd, bs, (k_shuf q dk), 0, ct, bo, wi, sh, lf, lc, mo, ah)) := by
  refine Met.ofW (cc := bM_shuffle) (maxL := 6) (ret := none) (by decide) rfl ?_
  intro p e s m args below meth c s₁ BB hml hv
  obtain ⟨rfl, hB⟩ := hv
  have hx := BB.exec
  have hb := BB.bytes
  have hr := BB.returns
  have hlk := BB.notSynchronized
  have hts := atoms_spec (ws := wd yM_shuffle bM_shuffle 6 none) BB.pre
  have hown : s.vm.findClass "HandTablesModel" = some m.cls := findClass_of_methodNamed BB.named
  have hS : CallFix p m c bM_shuffle 6 s _ (wd yM_shuffle bM_shuffle 6 none) "HandTablesModel" := ⟨hx, hb, hml, hown, hts⟩
  obtain ⟨hP, hK⟩ := hB
  have hP : va_P g.1 cl_X (mo_V g th ks kc rn oc hd hs se bd bs dk dp ct bo wi sh lf lc mo ah) s.heap := hP
  have hSS : va_S (mo_fr g) s.heap s.heap [] := va_S.rf
  have hl := lv_entry ([.ref (g.2.2 0), .int q]) (n := 6) (Nat.le_of_ble_eq_true rfl)
  rw [lg_entry_eq]
  generalize (lg_sl ([.ref (g.2.2 0), .int q]) ++ List.replicate (6 - (lg_sl ([.ref (g.2.2 0), .int q])).length) Slot.unset).toArray = ls at hl ⊢
  have hl : lv_has ls 6 [(0, .ref (g.2.2 0)), (1, .int q)] := hl
  obtain ⟨H, eH⟩ : ∃ H, s.heap = H := ⟨_, rfl⟩
  obtain ⟨locs, eL⟩ : ∃ L, ([] : List Loc) = L := ⟨_, rfl⟩
  have hP : va_P g.1 cl_X (mo_V g th ks kc rn oc hd hs se bd bs dk dp ct bo wi sh lf lc mo ah) H := by rw [← eH]; exact hP
  have hSS : va_S (mo_fr g) s.heap H locs := by rw [← eH, ← eL]; exact hSS
  refine mm_go eH eL ?_
  clear eH eL
  refine lv_aload_n hx hb dM_shuffle_0 rfl (lv_at hl 0 rfl) ?_
  refine lv_iconst (v := 0) hx hb dM_shuffle_1 (by decide) ?_
  refine va_put (D := g.1) (ci := 1) (v := .int 0) (ty := .int) (C := "HandTablesModel") (T := T_M) (N := 20) hx hb hts (fun w hw => wd_in (u_inM w hw)) tf_M tf_M_ok n_M hown hK hP (mo_D hap) hSS 0 rfl rfl 0 (by decide) (hts _ (wd_in (gw_mem 457 rfl rfl))) (fun _ h => h) rfl (by decide +kernel) rfl rfl (Nat.le_of_ble_eq_true rfl) dM_shuffle_2 (fun H locs hP _ hSS => ?_)
  have hP : va_P g.1 cl_X (mo_V g 0 ks kc rn oc hd hs se bd bs dk dp ct bo wi sh lf lc mo ah) H := hP
  refine lv_aload_n hx hb dM_shuffle_5 rfl (lv_at hl 0 rfl) ?_
  refine mm_V (cM_freshDeck l g 0 ks kc rn oc hd hs se bd bs dk dp ct bo wi sh lf lc mo ah hap) rfl kM_M_freshDeck hS hK hP ⟨Nat.le_of_ble_eq_true rfl, Nat.le_of_ble_eq_true rfl⟩ hl.1 rfl (Nat.le_of_ble_eq_true rfl) ⟨Nat.zero_le _, Nat.zero_le _⟩ dM_shuffle_6 hSS (fun v9 S9 H locs hR hP hSS => ?_)
  obtain ⟨rfl, rfl⟩ := hR
  have hP : va_P g.1 cl_X (mo_V g 0 ks kc rn oc hd hs se bd bs (k_fresh dk) 0 ct bo wi sh lf lc mo ah) H := hP
  refine lv_iload_n hx hb dM_shuffle_9 rfl (lv_at hl 1 rfl) ?_
  refine jt_topi (fun x1 ex1 => ?_)
  refine lv_istore_n (lv' := [(2, .int x1), (0, .ref (g.2.2 0)), (1, .int q)]) hx hb dM_shuffle_10 rfl hl (by decide) rfl (fun ls hl => ?_)
  refine lv_bipush (v := 51) hx hb dM_shuffle_11 (by decide) ?_
  refine jt_topi (fun x2 ex2 => ?_)
  refine lv_istore_n (lv' := [(3, .int x2), (2, .int x1), (0, .ref (g.2.2 0)), (1, .int q)]) hx hb dM_shuffle_13 rfl hl (by decide) rfl (fun ls hl => ?_)
  have hloop : ∀ (n : Nat) (x : Int32)  (wdk3 : Nat → Int32) (H : Heap) (locs : List Loc) (ls : Array Slot), lv_has ls 6 [(3, .int (nI n)), (2, .int x), (0, .ref (g.2.2 0))] → va_P g.1 cl_X (mo_V g 0 ks kc rn oc hd hs se bd bs wdk3 0 ct bo wi sh lf lc mo ah) H → va_S (mo_fr g) s.heap H locs → (n ≤ 51) → (∀  (H : Heap) (locs : List Loc) (ls : Array Slot), lv_has ls 6 [(0, .ref (g.2.2 0))] → va_P g.1 cl_X (mo_V g 0 ks kc rn oc hd hs se bd bs (kp_lp n x wdk3) 0 ct bo wi sh lf lc mo ah) H → va_S (mo_fr g) s.heap H locs → W p l e (headSpec (wd yM_shuffle bM_shuffle 6 none) (rmD 1 0 0)).room s m ([.ref (g.2.2 0), .int q]).toArray below meth c H locs 0 0 (MQ below (mm_Q g (fun v9 S9 => v9 = none ∧ S9 = (0, ks, kc, rn, oc, hd, hs, se, bd, bs, (k_shuf q dk), 0, ct, bo, wi, sh, lf, lc, mo, ah))) ([.ref (g.2.2 0), .int q]).toArray s 0 0 (mo_fr g)) (F0 m 76 ls [])) → W p l e (headSpec (wd yM_shuffle bM_shuffle 6 none) (rmD 1 0 0)).room s m ([.ref (g.2.2 0), .int q]).toArray below meth c H locs 0 0 (MQ below (mm_Q g (fun v9 S9 => v9 = none ∧ S9 = (0, ks, kc, rn, oc, hd, hs, se, bd, bs, (k_shuf q dk), 0, ct, bo, wi, sh, lf, lc, mo, ah))) ([.ref (g.2.2 0), .int q]).toArray s 0 0 (mo_fr g)) (F0 m 14 ls []) := by
    intro n
    induction n with
    | zero =>
      intro x  wdk3 H locs ls hl hP hSS hn K
      refine lv_iload_n hx hb dM_shuffle_14 rfl (lv_at hl 0 rfl) ?_
      refine lv_if_le (tgt := 76) hx hb dM_shuffle_15 (by decide) (fun hc4 => ?_) (fun hc4 => ?_)
      rotate_left
      · first | exact absurd hc4 (by decide) | exact absurd (by decide) hc4
      have hlB := lv_sub hl [2] rfl
      have hPB := hP
      have hSB := hSS
      simp only [kp_lp, sh_x, sh_j] at K
      exact K  _ _ _ hlB hPB hSB 
    | succ n ih =>
      intro x  wdk3 H locs ls hl hP hSS hn K
      refine lv_iload_n hx hb dM_shuffle_14 rfl (lv_at hl 0 rfl) ?_
      refine lv_if_le (tgt := 76) hx hb dM_shuffle_15 (by decide) (fun hc5 => ?_) (fun hc5 => ?_)
      · exact absurd hc5 (nI_nle (by omega) (by omega))
      · refine lv_iload_n hx hb dM_shuffle_18 rfl (lv_at hl 1 rfl) ?_
        refine lv_ldc (v := 1103515245) hx hb hown (hts _ (wd_in (gw_mem 650 rfl rfl))) dM_shuffle_19 ?_
        refine lv_imul hx hb dM_shuffle_21 ?_
        refine lv_sipush (v := 12345) hx hb dM_shuffle_22 (by decide) ?_
        refine lv_iadd hx hb dM_shuffle_25 ?_
        refine jt_topi (fun x6 ex6 => ?_)
        refine lv_istore_n (lv' := [(2, .int x6), (3, .int (nI (n + 1))), (0, .ref (g.2.2 0))]) hx hb dM_shuffle_26 rfl hl (by decide) rfl (fun ls hl => ?_)
        refine lv_iload_n hx hb dM_shuffle_27 rfl (lv_at hl 0 rfl) ?_
        refine lv_ldc (v := 2147483647) hx hb hown (hts _ (wd_in (gw_mem 651 rfl rfl))) dM_shuffle_28 ?_
        refine lv_iand hx hb dM_shuffle_30 ?_
        refine lv_bipush (v := 8) hx hb dM_shuffle_31 (by decide) ?_
        refine jv_ishr hx hb dM_shuffle_33 ?_
        refine lv_iload_n hx hb dM_shuffle_34 rfl (lv_at hl 1 rfl) ?_
        refine lv_iconst (v := 1) hx hb dM_shuffle_35 (by decide) ?_
        refine lv_iadd hx hb dM_shuffle_36 ?_
        refine jv_irem hx hb dM_shuffle_37 (by rw [nI_1]; exact nI_ne0 (by omega) (by omega)) ?_
        refine jt_topi (fun x7 ex7 => ?_)
        refine lv_istore (lv' := [(4, .int x7), (2, .int x6), (3, .int (nI (n + 1))), (0, .ref (g.2.2 0))]) hx hb dM_shuffle_38 hl (by decide) rfl (fun ls hl => ?_)
        refine lv_aload_n hx hb dM_shuffle_40 rfl (lv_at hl 3 rfl) ?_
        refine va_get (D := g.1) (ci := 1) (v := .ref (g.2.2 7)) (C := "HandTablesModel") (T := T_M) (N := 20) hx hb hts (fun w hw => wd_in (u_inM w hw)) hown hK hP 0 rfl rfl 10 (by decide) (hts _ (wd_in (gw_mem 467 rfl rfl))) (fun _ h => h) rfl dM_shuffle_41 ?_
        refine lv_iload_n hx hb dM_shuffle_44 rfl (lv_at hl 2 rfl) ?_
        refine va_iald hx hb hK hP 7 0 rfl rfl (vp_in_nI (by omega) (by decide)) dM_shuffle_45 ?_
        refine jt_topi (fun x8 ex8 => ?_)
        refine lv_istore (lv' := [(5, .int x8), (4, .int x7), (2, .int x6), (3, .int (nI (n + 1))), (0, .ref (g.2.2 0))]) hx hb dM_shuffle_46 hl (by decide) rfl (fun ls hl => ?_)
        refine lv_aload_n hx hb dM_shuffle_48 rfl (lv_at hl 4 rfl) ?_
        refine va_get (D := g.1) (ci := 1) (v := .ref (g.2.2 7)) (C := "HandTablesModel") (T := T_M) (N := 20) hx hb hts (fun w hw => wd_in (u_inM w hw)) hown hK hP 0 rfl rfl 10 (by decide) (hts _ (wd_in (gw_mem 467 rfl rfl))) (fun _ h => h) rfl dM_shuffle_49 ?_
        refine lv_iload_n hx hb dM_shuffle_52 rfl (lv_at hl 3 rfl) ?_
        refine lv_aload_n hx hb dM_shuffle_53 rfl (lv_at hl 4 rfl) ?_
        refine va_get (D := g.1) (ci := 1) (v := .ref (g.2.2 7)) (C := "HandTablesModel") (T := T_M) (N := 20) hx hb hts (fun w hw => wd_in (u_inM w hw)) hown hK hP 0 rfl rfl 10 (by decide) (hts _ (wd_in (gw_mem 467 rfl rfl))) (fun _ h => h) rfl dM_shuffle_54 ?_
        refine lv_iload hx hb dM_shuffle_57 (lv_at hl 1 rfl) ?_
        refine va_iald hx hb hK hP 7 0 rfl rfl (by subst ex7; exact sh_in _ hn) dM_shuffle_59 ?_
        refine va_iast (x := (wdk3 (x7 : Int32).toNatClampNeg)) hx hb hK hP (mo_D hap) hSS 7 0 rfl rfl (vp_in_nI (by omega) (by decide)) dM_shuffle_60 (fun H locs hP _ hSS => ?_)
        have hP : va_P g.1 cl_X (mo_V g 0 ks kc rn oc hd hs se bd bs (upd wdk3 ((nI (n + 1)) : Int32).toNatClampNeg (wdk3 (x7 : Int32).toNatClampNeg)) 0 ct bo wi sh lf lc mo ah) H := hP
        refine lv_aload_n hx hb dM_shuffle_61 rfl (lv_at hl 4 rfl) ?_
        refine va_get (D := g.1) (ci := 1) (v := .ref (g.2.2 7)) (C := "HandTablesModel") (T := T_M) (N := 20) hx hb hts (fun w hw => wd_in (u_inM w hw)) hown hK hP 0 rfl rfl 10 (by decide) (hts _ (wd_in (gw_mem 467 rfl rfl))) (fun _ h => h) rfl dM_shuffle_62 ?_
        refine lv_iload hx hb dM_shuffle_65 (lv_at hl 1 rfl) ?_
        refine lv_iload hx hb dM_shuffle_67 (lv_at hl 0 rfl) ?_
        refine va_iast (x := x8) hx hb hK hP (mo_D hap) hSS 7 0 rfl rfl (by subst ex7; exact sh_in _ hn) dM_shuffle_69 (fun H locs hP _ hSS => ?_)
        have hP : va_P g.1 cl_X (mo_V g 0 ks kc rn oc hd hs se bd bs (upd (upd wdk3 ((nI (n + 1)) : Int32).toNatClampNeg (wdk3 (x7 : Int32).toNatClampNeg)) (x7 : Int32).toNatClampNeg x8) 0 ct bo wi sh lf lc mo ah) H := hP
        refine jv_iinc (a := (-1)) hx hb dM_shuffle_70 hl (k := 3) rfl (by decide) (by decide) (fun x9 ex9 ls hl => ?_)
        have hl : lv_has ls 6 [(3, .int x9), (5, .int x8), (4, .int x7), (2, .int x6), (0, .ref (g.2.2 0))] := hl
        refine lv_goto (tgt := 14) hx hb dM_shuffle_73 (by decide) ?_
        rw [nI_dec] at ex9
        have hlB := lv_sub hl [0, 3, 4] rfl
        have hPB := hP
        have hSB := hSS
        subst ex9 ex8 ex7 ex6
        simp only [kp_lp, sh_x, sh_j] at K
        exact ih _  _ _ _ _ hlB hPB hSB (by omega) K
  refine hloop 51 x1  (k_fresh dk) _ _ ls (by have h9 := lv_sub hl [0, 1, 2] rfl; subst ex2; exact h9) hP hSS (by decide) (fun  H locs ls hl hP hSS  => ?_)
  clear hloop
  obtain ⟨hdk10, ehdk10⟩ : ∃ z, (kp_lp 51 x1 (k_fresh dk)) = z := ⟨_, rfl⟩
  rw [ehdk10] at hP
  exact mm_vret (S := (0, ks, kc, rn, oc, hd, hs, se, bd, bs, hdk10, 0, ct, bo, wi, sh, lf, lc, mo, ah)) hx hb hr hlk dM_shuffle_76 hP hSS (by exact ⟨by subst ehdk10 ex2 ex1; (try simp only [k_shuf]) <;> rfl, by subst ehdk10 ex2 ex1; (try simp only [k_shuf]) <;> rfl⟩)
theorem k_dp {j : Nat} (h : j ≤ 52) (h5 : ¬ nI j = 52) : j < 52 := by
  have : j ≠ 52 := fun z => h5 (by rw [z]; rfl)
  omega
def k_drawV (f : Nat → Int32) (j : Nat) : Int32 := if nI j = 52 then -1 else f (nI j + 1 - 1).toNatClampNeg
set_option maxHeartbeats 4000000 in
set_option maxRecDepth 100000 in
theorem cM_draw (l : Launch) (g : mo_E) (th : Int32) (ks : Nat → Int32) (kc : Int32) (rn : Nat → Int32) (oc : Nat → Int32) (hd : Nat → Int32) (hs : Int32) (se : Nat → Int32) (bd : Nat → Int32) (bs : Int32) (dk : Nat → Int32) (j : Nat) (ct : Int32) (bo : Int32) (wi : Nat → Int32) (sh : Nat → Int32) (lf : Nat → Int32) (lc : Int32) (mo : Int32) (ah : Int32)   (hap : mo_ap g) (hj : j ≤ 52) : mm_M l yM_draw bM_draw 1 (some .int) 0 [.ref (g.2.2 0)] g (th, ks, kc, rn, oc, hd, hs, se, bd, bs, dk, (nI j), ct, bo, wi, sh, lf, lc, mo, ah) (fun v9 S9 => v9 = some (.int (k_drawV dk j)) ∧ S9 = (0, ks, kc, rn, oc, hd, hs, se, bd, bs, dk, (if nI j = 52 then nI j else nI j + 1), ct, bo, wi, sh, lf, lc, mo, ah)) := by
  refine Met.ofW (cc := bM_draw) (maxL := 1) (ret := (some .int)) (by decide) rfl ?_
  intro p e s m args below meth c s₁ BB hml hv
  obtain ⟨rfl, hB⟩ := hv
  have hx := BB.exec
  have hb := BB.bytes
  have hr := BB.returns
  have hlk := BB.notSynchronized
  have hts := atoms_spec (ws := wd yM_draw bM_draw 1 (some .int)) BB.pre
  have hown : s.vm.findClass "HandTablesModel" = some m.cls := findClass_of_methodNamed BB.named
  have hS : CallFix p m c bM_draw 1 s _ (wd yM_draw bM_draw 1 (some .int)) "HandTablesModel" := ⟨hx, hb, hml, hown, hts⟩
  obtain ⟨hP, hK⟩ := hB
  have hP : va_P g.1 cl_X (mo_V g th ks kc rn oc hd hs se bd bs dk (nI j) ct bo wi sh lf lc mo ah) s.heap := hP
  have hSS : va_S (mo_fr g) s.heap s.heap [] := va_S.rf
  have hl := lv_entry ([.ref (g.2.2 0)]) (n := 1) (Nat.le_of_ble_eq_true rfl)
  rw [lg_entry_eq]
  generalize (lg_sl ([.ref (g.2.2 0)]) ++ List.replicate (1 - (lg_sl ([.ref (g.2.2 0)])).length) Slot.unset).toArray = ls at hl ⊢
  have hl : lv_has ls 1 [(0, .ref (g.2.2 0))] := hl
  obtain ⟨H, eH⟩ : ∃ H, s.heap = H := ⟨_, rfl⟩
  obtain ⟨locs, eL⟩ : ∃ L, ([] : List Loc) = L := ⟨_, rfl⟩
  have hP : va_P g.1 cl_X (mo_V g th ks kc rn oc hd hs se bd bs dk (nI j) ct bo wi sh lf lc mo ah) H := by rw [← eH]; exact hP
  have hSS : va_S (mo_fr g) s.heap H locs := by rw [← eH, ← eL]; exact hSS
  refine mm_go eH eL ?_
  clear eH eL
  refine lv_aload_n hx hb dM_draw_0 rfl (lv_at hl 0 rfl) ?_
  refine lv_iconst (v := 0) hx hb dM_draw_1 (by decide) ?_
  refine va_put (D := g.1) (ci := 1) (v := .int 0) (ty := .int) (C := "HandTablesModel") (T := T_M) (N := 20) hx hb hts (fun w hw => wd_in (u_inM w hw)) tf_M tf_M_ok n_M hown hK hP (mo_D hap) hSS 0 rfl rfl 0 (by decide) (hts _ (wd_in (gw_mem 457 rfl rfl))) (fun _ h => h) rfl (by decide +kernel) rfl rfl (Nat.le_of_ble_eq_true rfl) dM_draw_2 (fun H locs hP _ hSS => ?_)
  have hP : va_P g.1 cl_X (mo_V g 0 ks kc rn oc hd hs se bd bs dk (nI j) ct bo wi sh lf lc mo ah) H := hP
  refine lv_aload_n hx hb dM_draw_5 rfl (lv_at hl 0 rfl) ?_
  refine va_get (D := g.1) (ci := 1) (v := .int (nI j)) (C := "HandTablesModel") (T := T_M) (N := 20) hx hb hts (fun w hw => wd_in (u_inM w hw)) hown hK hP 0 rfl rfl 11 (by decide) (hts _ (wd_in (gw_mem 468 rfl rfl))) (fun _ h => h) rfl dM_draw_6 ?_
  refine lv_bipush (v := 52) hx hb dM_draw_9 (by decide) ?_
  refine lv_icmp_ne (tgt := 16) hx hb dM_draw_11 (by decide) (fun hc1 => ?_) (fun hc1 => ?_)
  · refine lv_aload_n hx hb dM_draw_16 rfl (lv_at hl 0 rfl) ?_
    refine lv_dup hx hb dM_draw_17 rfl ?_
    refine va_get (D := g.1) (ci := 1) (v := .int (nI j)) (C := "HandTablesModel") (T := T_M) (N := 20) hx hb hts (fun w hw => wd_in (u_inM w hw)) hown hK hP 0 rfl rfl 11 (by decide) (hts _ (wd_in (gw_mem 468 rfl rfl))) (fun _ h => h) rfl dM_draw_18 ?_
    refine lv_iconst (v := 1) hx hb dM_draw_21 (by decide) ?_
    refine lv_iadd hx hb dM_draw_22 ?_
    refine va_put (D := g.1) (ci := 1) (v := .int ((nI j) + 1)) (ty := .int) (C := "HandTablesModel") (T := T_M) (N := 20) hx hb hts (fun w hw => wd_in (u_inM w hw)) tf_M tf_M_ok n_M hown hK hP (mo_D hap) hSS 0 rfl rfl 11 (by decide) (hts _ (wd_in (gw_mem 468 rfl rfl))) (fun _ h => h) rfl (by decide +kernel) rfl rfl (Nat.le_of_ble_eq_true rfl) dM_draw_23 (fun H locs hP _ hSS => ?_)
    have hP : va_P g.1 cl_X (mo_V g 0 ks kc rn oc hd hs se bd bs dk ((nI j) + 1) ct bo wi sh lf lc mo ah) H := hP
    refine lv_aload_n hx hb dM_draw_26 rfl (lv_at hl 0 rfl) ?_
    refine va_get (D := g.1) (ci := 1) (v := .ref (g.2.2 7)) (C := "HandTablesModel") (T := T_M) (N := 20) hx hb hts (fun w hw => wd_in (u_inM w hw)) hown hK hP 0 rfl rfl 10 (by decide) (hts _ (wd_in (gw_mem 467 rfl rfl))) (fun _ h => h) rfl dM_draw_27 ?_
    refine lv_aload_n hx hb dM_draw_30 rfl (lv_at hl 0 rfl) ?_
    refine va_get (D := g.1) (ci := 1) (v := .int ((nI j) + 1)) (C := "HandTablesModel") (T := T_M) (N := 20) hx hb hts (fun w hw => wd_in (u_inM w hw)) hown hK hP 0 rfl rfl 11 (by decide) (hts _ (wd_in (gw_mem 468 rfl rfl))) (fun _ h => h) rfl dM_draw_31 ?_
    refine lv_iconst (v := 1) hx hb dM_draw_34 (by decide) ?_
    refine lv_isub hx hb dM_draw_35 ?_
    refine va_iald hx hb hK hP 7 0 rfl rfl (by rw [nI_1, nI_pred]; exact vp_in_nI (k_dp hj hc1) (by decide)) dM_draw_36 ?_
    exact mm_iret (S := (0, ks, kc, rn, oc, hd, hs, se, bd, bs, dk, ((nI j) + 1), ct, bo, wi, sh, lf, lc, mo, ah)) hx hb hr hlk dM_draw_37 hP hSS (by exact ⟨by (try simp only [k_drawV, if_neg hc1]) <;> rfl, by (try simp only [k_drawV, if_neg hc1]) <;> rfl⟩)
  · refine lv_iconst (v := (-1)) hx hb dM_draw_14 (by decide) ?_
    exact mm_iret (S := (0, ks, kc, rn, oc, hd, hs, se, bd, bs, dk, (nI j), ct, bo, wi, sh, lf, lc, mo, ah)) hx hb hr hlk dM_draw_15 hP hSS (by exact ⟨by (try simp only [k_drawV, if_pos hc1]) <;> rfl, by (try simp only [k_drawV, if_pos hc1]) <;> rfl⟩)
