/-! the model: shares and counts -/
theorem k_biti (x k : Int32) : jri x k &&& 1 = 0 ∨ jri x k &&& 1 = 1 := by
  obtain ⟨j, hj, e⟩ := pk_andE (jri x k) (m := 1) 1 (by decide)
  rw [e]
  have : j = 0 ∨ j = 1 := by omega
  rcases this with z | z
  · subst z; exact Or.inl rfl
  · subst z; exact Or.inr rfl
def ky_lp (x q : Int32) : Nat → Int32 → Int32 → Int32 × Int32
  | 0, a, y => (a, y)
  | n + 1, a, y => if jri x (nI (6 - (n + 1))) &&& 1 = 1 then (if q ≤ nI (6 - (n + 1)) then ky_lp x q n (a + 1) y else ky_lp x q n (a + 1) (y + 1)) else ky_lp x q n a y
def ky_c (x : Int32) : Nat → Nat
  | 0 => 0
  | n + 1 => (if jri x (nI (6 - (n + 1))) &&& 1 = 1 then 1 else 0) + ky_c x n
theorem ky_le (x : Int32) : ∀ n, ky_c x n ≤ n
  | 0 => Nat.le_refl 0
  | n + 1 => by
    have := ky_le x n
    unfold ky_c
    split <;> omega
theorem ky_is (x q : Int32) : ∀ (n a : Nat) (y : Int32), (ky_lp x q n (nI a) y).1 = nI (a + ky_c x n)
  | 0, a, y => rfl
  | n + 1, a, y => by
    unfold ky_lp ky_c
    by_cases h : jri x (nI (6 - (n + 1))) &&& 1 = 1
    · rw [if_pos h, if_pos h, nI_1]
      split
      · rw [ky_is x q n]; congr 1; omega
      · rw [ky_is x q n]; congr 1; omega
    · rw [if_neg h, if_neg h, ky_is x q n, Nat.zero_add]
theorem ky_pos {x : Int32} {j : Nat} (h : jri x (nI j) &&& 1 = 1) (hj : j < 6) : ∀ n, n ≤ 6 → 6 - n ≤ j → 1 ≤ ky_c x n
  | 0, _, h6 => absurd h6 (by omega)
  | n + 1, hn, h6 => by
    unfold ky_c
    by_cases e : j = 6 - (n + 1)
    · subst e
      rw [if_pos h]
      omega
    · have := ky_pos h hj n (by omega) (by omega)
      omega
theorem ky_ne {x q : Int32} (hq : vp_in q 6) (h : ¬ jri x q &&& 1 = 0) : ¬ (ky_lp x q 6 0 0).1 = 0 := by
  obtain ⟨j, hj, e⟩ := vp_in_of hq (by decide)
  have h1 : jri x (nI j) &&& 1 = 1 := by rw [← e]; exact (k_biti x q).resolve_left h
  have h2 := ky_pos h1 hj 6 (by omega) (by omega)
  have h3 := ky_le x 6
  have h4 : (ky_lp x q 6 0 0).1 = nI (0 + ky_c x 6) := ky_is x q 6 0 0
  rw [h4, Nat.zero_add]
  exact nI_ne0 (by omega) (by omega)
def k_shareV (x q w : Int32) : Int32 := if jri x q &&& 1 = 0 then 0 else if jrem w (ky_lp x q 6 0 0).1 ≤ (ky_lp x q 6 0 0).2 then w / (ky_lp x q 6 0 0).1 else w / (ky_lp x q 6 0 0).1 + 1
def kn_lp (x : Int32) : Nat → (Nat → Int32) → (Nat → Int32) → (Nat → Int32) × (Nat → Int32)
  | 0, w, y => (w, y)
  | n + 1, w, y => if jri x (nI (6 - (n + 1))) &&& 1 = 1 then (if x &&& (x - 1) = 0 then kn_lp x n (upd w (nI (6 - (n + 1))).toNatClampNeg (w (nI (6 - (n + 1))).toNatClampNeg + 1)) y else kn_lp x n w (upd y (nI (6 - (n + 1))).toNatClampNeg (y (nI (6 - (n + 1))).toNatClampNeg + 1))) else kn_lp x n w y
/-- one more board, led by the seats x: the wins and the shares behind it -/
def k_cnt (x : Int32) (w y : Nat → Int32) : (Nat → Int32) × (Nat → Int32) := kn_lp x 6 w y
def kz6 : Nat → (Nat → Int32) → Nat → Int32
  | 0, f => f
  | n + 1, f => kz6 n (upd f (nI (6 - (n + 1))).toNatClampNeg 0)
theorem kf_ok (h f : Nat → Int32) (b : Nat) : ∀ (n q : Nat) (w : Nat → Int32), q + n ≤ 52 → (∀ i, i < q → vp_in (w i) 52) → ∃ L, L ≤ q + n ∧ q ≤ L ∧ (kf_lp h f b n (nI q) w).1 = nI L ∧ ∀ i, i < L → vp_in ((kf_lp h f b n (nI q) w).2 i) 52
  | 0, q, w, _, hw => ⟨q, by omega, by omega, rfl, hw⟩
  | n + 1, q, w, hq, hw => by
    unfold kf_lp
    split
    · rw [nI_1, nI_clamp (by omega)]
      obtain ⟨L, h1, h2, h3, h4⟩ := kf_ok h f b n (q + 1) (upd w q (nI (52 - (n + 1)))) (by omega) (fun i hi => by
        by_cases e : i = q
        · subst e; rw [pk_us]; exact vp_in_nI (by omega) (by decide)
        · rw [pk_un e]; exact hw i (by omega))
      exact ⟨L, by omega, by omega, h3, h4⟩
    · obtain ⟨L, h1, h2, h3, h4⟩ := kf_ok h f b n q w (by omega) hw
      exact ⟨L, by omega, by omega, h3, h4⟩
theorem k_left_ok (h f : Nat → Int32) (b : Nat) (w : Nat → Int32) : ∃ L, L ≤ 52 ∧ (k_left h f b w).1 = nI L ∧ ∀ i, i < L → vp_in ((k_left h f b w).2 i) 52 := by
  obtain ⟨L, h1, _, h3, h4⟩ := kf_ok h f b 52 0 w (by omega) (fun i hi => absurd hi (by omega))
  exact ⟨L, by omega, h3, h4⟩
def kN4 (h f z : Nat → Int32) (L : Nat) : Nat → (Nat → Int32) → (Nat → Int32) → (Nat → Int32) × (Nat → Int32)
  | 0, w, y => (w, y)
  | n + 1, w, y => kN4 h f z L n (k_cnt (k_lead h f 4 (z (nI (L - (n + 1))).toNatClampNeg) (-1)) w y).1 (k_cnt (k_lead h f 4 (z (nI (L - (n + 1))).toNatClampNeg) (-1)) w y).2
def kN3i (h f z : Nat → Int32) (L : Nat) (k : Int32) : Nat → (Nat → Int32) → (Nat → Int32) → (Nat → Int32) × (Nat → Int32)
  | 0, w, y => (w, y)
  | n + 1, w, y => kN3i h f z L k n (k_cnt (k_lead h f 3 k (z (nI (L - (n + 1))).toNatClampNeg)) w y).1 (k_cnt (k_lead h f 3 k (z (nI (L - (n + 1))).toNatClampNeg)) w y).2
def kN3o (h f z : Nat → Int32) (L : Nat) : Nat → (Nat → Int32) → (Nat → Int32) → (Nat → Int32) × (Nat → Int32)
  | 0, w, y => (w, y)
  | n + 1, w, y => kN3o h f z L n (kN3i h f z L (z (nI (L - (n + 1))).toNatClampNeg) n w y).1 (kN3i h f z L (z (nI (L - (n + 1))).toNatClampNeg) n w y).2
/-- wins and shares over all boards that can come -/
def k_all (h f : Nat → Int32) (b : Nat) (z w y : Nat → Int32) : (Nat → Int32) × (Nat → Int32) :=
  if b = 5 then k_cnt (k_lead h f 5 (-1) (-1)) (kz6 6 w) (kz6 6 y) else if b = 4 then kN4 h f (k_left h f 4 z).2 (k_left h f 4 z).1.toNatClampNeg (k_left h f 4 z).1.toNatClampNeg (kz6 6 w) (kz6 6 y) else kN3o h f (k_left h f 3 z).2 (k_left h f 3 z).1.toNatClampNeg (k_left h f 3 z).1.toNatClampNeg (kz6 6 w) (kz6 6 y)
set_option maxHeartbeats 4000000 in
set_option maxRecDepth 100000 in
theorem cM_share (l : Launch) (g : mo_E) (th : Int32) (ks : Nat → Int32) (kc : Int32) (rn : Nat → Int32) (oc : Nat → Int32) (hd : Nat → Int32) (hs : Int32) (se : Nat → Int32) (bd : Nat → Int32) (b : Nat) (dk : Nat → Int32) (dp : Int32) (ct : Int32) (bo : Int32) (wi : Nat → Int32) (sh : Nat → Int32) (lf : Nat → Int32) (lc : Int32) (mo : Int32) (ah : Int32) (q : Int32) (w : Int32)  (hap : mo_ap g) (hb5 : b ≤ 5) (hbd : ∀ i, i < b → vp_in (bd i) 52) (hse : k_hse se) : mm_M l yM_share bM_share 7 (some .int) 6 [.ref (g.2.2 0), .int q, .int w] g (th, ks, kc, rn, oc, hd, hs, se, bd, (nI b), dk, dp, ct, bo, wi, sh, lf, lc, mo, ah) (fun v9 S9 => v9 = some (.int (if m_noSeat q = 0 then (if 0 ≤ w then (if se (2 * q).toNatClampNeg = -1 then 0 else if 5 ≤ nI b then k_shareV (k_lead se bd b (-1) (-1)) q w else 0) else 0) else 0)) ∧ ∃ (rn' : Nat → Int32) (oc' : Nat → Int32) (hd' : Nat → Int32) (hs' : Int32) (mo' : Int32) (ah' : Int32), S9 = ((if m_noSeat q = 0 then (if 0 ≤ w then (if se (2 * q).toNatClampNeg = -1 then 3 else if 5 ≤ nI b then 0 else 3) else 2) else 1), ks, kc, rn', oc', hd', hs', se, bd, (nI b), dk, dp, ct, bo, wi, sh, lf, lc, mo', ah')) := by
  refine Met.ofW (cc := bM_share) (maxL := 7) (ret := (some .int)) (by decide) rfl ?_
  intro p e s m args below meth c s₁ BB hml hv
  obtain ⟨rfl, hB⟩ := hv
  have hx := BB.exec
  have hb := BB.bytes
  have hr := BB.returns
  have hlk := BB.notSynchronized
  have hts := atoms_spec (ws := wd yM_share bM_share 7 (some .int)) BB.pre
  have hown : s.vm.findClass "HandTablesModel" = some m.cls := findClass_of_methodNamed BB.named
  have hS : CallFix p m c bM_share 7 s _ (wd yM_share bM_share 7 (some .int)) "HandTablesModel" := ⟨hx, hb, hml, hown, hts⟩
  obtain ⟨hP, hK⟩ := hB
  have hP : va_P g.1 cl_X (mo_V g th ks kc rn oc hd hs se bd (nI b) dk dp ct bo wi sh lf lc mo ah) s.heap := hP
  have hSS : va_S (mo_fr g) s.heap s.heap [] := va_S.rf
  have hl := lv_entry ([.ref (g.2.2 0), .int q, .int w]) (n := 7) (Nat.le_of_ble_eq_true rfl)
  rw [lg_entry_eq]
  generalize (lg_sl ([.ref (g.2.2 0), .int q, .int w]) ++ List.replicate (7 - (lg_sl ([.ref (g.2.2 0), .int q, .int w])).length) Slot.unset).toArray = ls at hl ⊢
  have hl : lv_has ls 7 [(0, .ref (g.2.2 0)), (1, .int q), (2, .int w)] := hl
  obtain ⟨H, eH⟩ : ∃ H, s.heap = H := ⟨_, rfl⟩
  obtain ⟨locs, eL⟩ : ∃ L, ([] : List Loc) = L := ⟨_, rfl⟩
  have hP : va_P g.1 cl_X (mo_V g th ks kc rn oc hd hs se bd (nI b) dk dp ct bo wi sh lf lc mo ah) H := by rw [← eH]; exact hP
  have hSS : va_S (mo_fr g) s.heap H locs := by rw [← eH, ← eL]; exact hSS
  refine mm_go eH eL ?_
  clear eH eL
  refine lv_aload_n hx hb dM_share_0 rfl (lv_at hl 0 rfl) ?_
  refine lv_iload_n hx hb dM_share_1 rfl (lv_at hl 1 rfl) ?_
  refine pu_SH (cM_noSeat l _) rfl kM_M_noSeat hS ⟨Nat.le_of_ble_eq_true rfl, Nat.le_of_ble_eq_true rfl⟩ hl.1 rfl (Nat.le_of_ble_eq_true rfl) ⟨Nat.zero_le _, Nat.zero_le _⟩ dM_share_2 ?_
  refine lv_if_eq (tgt := 12) hx hb dM_share_5 (by decide) (fun hc1 => ?_) (fun hc1 => ?_)
  · refine lv_iload_n hx hb dM_share_12 rfl (lv_at hl 2 rfl) ?_
    refine lv_if_ge (tgt := 20) hx hb dM_share_13 (by decide) (fun hc2 => ?_) (fun hc2 => ?_)
    · refine lv_aload_n hx hb dM_share_20 rfl (lv_at hl 0 rfl) ?_
      refine va_get (D := g.1) (ci := 1) (v := .ref (g.2.2 5)) (C := "HandTablesModel") (T := T_M) (N := 20) hx hb hts (fun w hw => wd_in (u_inM w hw)) hown hK hP 0 rfl rfl 7 (by decide) (hts _ (wd_in (gw_mem 464 rfl rfl))) (fun _ h => h) rfl dM_share_21 ?_
      refine lv_iconst (v := 2) hx hb dM_share_24 (by decide) ?_
      refine lv_iload_n hx hb dM_share_25 rfl (lv_at hl 1 rfl) ?_
      refine lv_imul hx hb dM_share_26 ?_
      refine va_iald hx hb hK hP 5 0 rfl rfl (k_s2 hc1).1 dM_share_27 ?_
      refine lv_iconst (v := (-1)) hx hb dM_share_28 (by decide) ?_
      refine lv_icmp_eq (tgt := 40) hx hb dM_share_29 (by decide) (fun hc3 => ?_) (fun hc3 => ?_)
      · refine lv_iconst (v := 3) hx hb dM_share_40 (by decide) ?_
        refine lv_goto (tgt := 45) hx hb dM_share_41 (by decide) ?_
        refine va_put (D := g.1) (ci := 1) (v := .int 3) (ty := .int) (C := "HandTablesModel") (T := T_M) (N := 20) hx hb hts (fun w hw => wd_in (u_inM w hw)) tf_M tf_M_ok n_M hown hK hP (mo_D hap) hSS 0 rfl rfl 0 (by decide) (hts _ (wd_in (gw_mem 457 rfl rfl))) (fun _ h => h) rfl (by decide +kernel) rfl rfl (Nat.le_of_ble_eq_true rfl) dM_share_45 (fun H locs hP _ hSS => ?_)
        have hP : va_P g.1 cl_X (mo_V g 3 ks kc rn oc hd hs se bd (nI b) dk dp ct bo wi sh lf lc mo ah) H := hP
        refine lv_aload_n hx hb dM_share_48 rfl (lv_at hl 0 rfl) ?_
        refine va_get (D := g.1) (ci := 1) (v := .int 3) (C := "HandTablesModel") (T := T_M) (N := 20) hx hb hts (fun w hw => wd_in (u_inM w hw)) hown hK hP 0 rfl rfl 0 (by decide) (hts _ (wd_in (gw_mem 457 rfl rfl))) (fun _ h => h) rfl dM_share_49 ?_
        refine lv_if_le (tgt := 57) hx hb dM_share_52 (by decide) (fun hc4 => ?_) (fun hc4 => ?_)
        · first | exact absurd hc4 (by decide) | exact absurd (by decide) hc4
        refine lv_iconst (v := 0) hx hb dM_share_55 (by decide) ?_
        exact mm_iret (S := (3, ks, kc, rn, oc, hd, hs, se, bd, (nI b), dk, dp, ct, bo, wi, sh, lf, lc, mo, ah)) hx hb hr hlk dM_share_56 hP hSS (by exact ⟨by (try simp only [k_shareV, if_pos hc1, if_pos hc2, if_pos hc3]) <;> rfl, rn, oc, hd, hs, mo, ah, by (try simp only [if_pos hc1, if_pos hc2, if_pos hc3]) <;> rfl⟩)
      · refine lv_aload_n hx hb dM_share_32 rfl (lv_at hl 0 rfl) ?_
        refine va_get (D := g.1) (ci := 1) (v := .int (nI b)) (C := "HandTablesModel") (T := T_M) (N := 20) hx hb hts (fun w hw => wd_in (u_inM w hw)) hown hK hP 0 rfl rfl 9 (by decide) (hts _ (wd_in (gw_mem 466 rfl rfl))) (fun _ h => h) rfl dM_share_33 ?_
        refine lv_iconst (v := 5) hx hb dM_share_36 (by decide) ?_
        refine lv_icmp_ge (tgt := 44) hx hb dM_share_37 (by decide) (fun hc5 => ?_) (fun hc5 => ?_)
        · refine lv_iconst (v := 0) hx hb dM_share_44 (by decide) ?_
          refine va_put (D := g.1) (ci := 1) (v := .int 0) (ty := .int) (C := "HandTablesModel") (T := T_M) (N := 20) hx hb hts (fun w hw => wd_in (u_inM w hw)) tf_M tf_M_ok n_M hown hK hP (mo_D hap) hSS 0 rfl rfl 0 (by decide) (hts _ (wd_in (gw_mem 457 rfl rfl))) (fun _ h => h) rfl (by decide +kernel) rfl rfl (Nat.le_of_ble_eq_true rfl) dM_share_45 (fun H locs hP _ hSS => ?_)
          have hP : va_P g.1 cl_X (mo_V g 0 ks kc rn oc hd hs se bd (nI b) dk dp ct bo wi sh lf lc mo ah) H := hP
          refine lv_aload_n hx hb dM_share_48 rfl (lv_at hl 0 rfl) ?_
          refine va_get (D := g.1) (ci := 1) (v := .int 0) (C := "HandTablesModel") (T := T_M) (N := 20) hx hb hts (fun w hw => wd_in (u_inM w hw)) hown hK hP 0 rfl rfl 0 (by decide) (hts _ (wd_in (gw_mem 457 rfl rfl))) (fun _ h => h) rfl dM_share_49 ?_
          refine lv_if_le (tgt := 57) hx hb dM_share_52 (by decide) (fun hc6 => ?_) (fun hc6 => ?_)
          rotate_left
          · first | exact absurd hc6 (by decide) | exact absurd (by decide) hc6
          refine lv_aload_n hx hb dM_share_57 rfl (lv_at hl 0 rfl) ?_
          refine lv_iconst (v := (-1)) hx hb dM_share_58 (by decide) ?_
          refine lv_iconst (v := (-1)) hx hb dM_share_59 (by decide) ?_
          refine mm_V (cM_leaders l g 0 ks kc rn oc hd hs se bd b dk dp ct bo wi sh lf lc mo ah (-1) (-1) hap hb5 hbd hse (Or.inl (by decide)) (Or.inl (by decide)) (kq_n0 hb5)) rfl kM_M_leaders hS hK hP ⟨Nat.le_of_ble_eq_true rfl, Nat.le_of_ble_eq_true rfl⟩ hl.1 rfl (Nat.le_of_ble_eq_true rfl) ⟨Nat.zero_le _, Nat.zero_le _⟩ dM_share_60 hSS (fun v9 S9 H locs hR hP hSS => ?_)
          obtain ⟨rfl, rn7, oc8, hd9, hs10, mo11, ah12, rfl⟩ := hR
          have hP : va_P g.1 cl_X (mo_V g 0 ks kc rn7 oc8 hd9 hs10 se bd (nI b) dk dp ct bo wi sh lf lc mo11 ah12) H := hP
          refine jt_topi (fun x13 ex13 => ?_)
          refine lv_istore_n (lv' := [(3, .int x13), (0, .ref (g.2.2 0)), (1, .int q), (2, .int w)]) hx hb dM_share_63 rfl hl (by decide) rfl (fun ls hl => ?_)
          refine lv_iconst (v := 0) hx hb dM_share_64 (by decide) ?_
          refine jt_topi (fun x14 ex14 => ?_)
          refine lv_istore (lv' := [(4, .int x14), (3, .int x13), (0, .ref (g.2.2 0)), (1, .int q), (2, .int w)]) hx hb dM_share_65 hl (by decide) rfl (fun ls hl => ?_)
          refine lv_iconst (v := 0) hx hb dM_share_67 (by decide) ?_
          refine jt_topi (fun x15 ex15 => ?_)
          refine lv_istore (lv' := [(5, .int x15), (4, .int x14), (3, .int x13), (0, .ref (g.2.2 0)), (1, .int q), (2, .int w)]) hx hb dM_share_68 hl (by decide) rfl (fun ls hl => ?_)
          refine lv_iconst (v := 0) hx hb dM_share_70 (by decide) ?_
          refine jt_topi (fun x16 ex16 => ?_)
          refine lv_istore (lv' := [(6, .int x16), (5, .int x15), (4, .int x14), (3, .int x13), (0, .ref (g.2.2 0)), (1, .int q), (2, .int w)]) hx hb dM_share_71 hl (by decide) rfl (fun ls hl => ?_)
          have hloop : ∀ (n : Nat) (a : Int32) (y : Int32)   (H : Heap) (locs : List Loc) (ls : Array Slot), lv_has ls 7 [(6, .int (nI (6 - n))), (4, .int a), (5, .int y), (3, .int x13), (2, .int w), (1, .int q), (0, .ref (g.2.2 0))] → va_P g.1 cl_X (mo_V g 0 ks kc rn7 oc8 hd9 hs10 se bd (nI b) dk dp ct bo wi sh lf lc mo11 ah12) H → va_S (mo_fr g) s.heap H locs → (n ≤ 6) → (∀  (H : Heap) (locs : List Loc) (ls : Array Slot), lv_has ls 7 [(4, .int (ky_lp x13 q n a y).1), (5, .int (ky_lp x13 q n a y).2), (3, .int x13), (2, .int w), (1, .int q), (0, .ref (g.2.2 0))] → va_P g.1 cl_X (mo_V g 0 ks kc rn7 oc8 hd9 hs10 se bd (nI b) dk dp ct bo wi sh lf lc mo11 ah12) H → va_S (mo_fr g) s.heap H locs → W p l e (headSpec (wd yM_share bM_share 7 (some .int)) (rmD 6 0 0)).room s m ([.ref (g.2.2 0), .int q, .int w]).toArray below meth c H locs 0 0 (MQ below (mm_Q g (fun v9 S9 => v9 = some (.int (if m_noSeat q = 0 then (if 0 ≤ w then (if se (2 * q).toNatClampNeg = -1 then 0 else if 5 ≤ nI b then k_shareV (k_lead se bd b (-1) (-1)) q w else 0) else 0) else 0)) ∧ ∃ (rn' : Nat → Int32) (oc' : Nat → Int32) (hd' : Nat → Int32) (hs' : Int32) (mo' : Int32) (ah' : Int32), S9 = ((if m_noSeat q = 0 then (if 0 ≤ w then (if se (2 * q).toNatClampNeg = -1 then 3 else if 5 ≤ nI b then 0 else 3) else 2) else 1), ks, kc, rn', oc', hd', hs', se, bd, (nI b), dk, dp, ct, bo, wi, sh, lf, lc, mo', ah'))) ([.ref (g.2.2 0), .int q, .int w]).toArray s 0 0 (mo_fr g)) (F0 m 116 ls [])) → W p l e (headSpec (wd yM_share bM_share 7 (some .int)) (rmD 6 0 0)).room s m ([.ref (g.2.2 0), .int q, .int w]).toArray below meth c H locs 0 0 (MQ below (mm_Q g (fun v9 S9 => v9 = some (.int (if m_noSeat q = 0 then (if 0 ≤ w then (if se (2 * q).toNatClampNeg = -1 then 0 else if 5 ≤ nI b then k_shareV (k_lead se bd b (-1) (-1)) q w else 0) else 0) else 0)) ∧ ∃ (rn' : Nat → Int32) (oc' : Nat → Int32) (hd' : Nat → Int32) (hs' : Int32) (mo' : Int32) (ah' : Int32), S9 = ((if m_noSeat q = 0 then (if 0 ≤ w then (if se (2 * q).toNatClampNeg = -1 then 3 else if 5 ≤ nI b then 0 else 3) else 2) else 1), ks, kc, rn', oc', hd', hs', se, bd, (nI b), dk, dp, ct, bo, wi, sh, lf, lc, mo', ah'))) ([.ref (g.2.2 0), .int q, .int w]).toArray s 0 0 (mo_fr g)) (F0 m 73 ls []) := by
            intro n
            induction n with
            | zero =>
              intro a y   H locs ls hl hP hSS hn K
              refine lv_iload hx hb dM_share_73 (lv_at hl 0 rfl) ?_
              refine lv_bipush (v := 6) hx hb dM_share_75 (by decide) ?_
              refine lv_icmp_ge (tgt := 116) hx hb dM_share_77 (by decide) (fun hc18 => ?_) (fun hc18 => ?_)
              · have hlB := lv_sub hl [1, 2, 3, 4, 5, 6] rfl
                have hPB := hP
                have hSB := hSS
                simp only [ky_lp] at K
                exact K  _ _ _ hlB hPB hSB 
              · exact absurd (by decide) hc18
            | succ n ih =>
              intro a y   H locs ls hl hP hSS hn K
              refine lv_iload hx hb dM_share_73 (lv_at hl 0 rfl) ?_
              refine lv_bipush (v := 6) hx hb dM_share_75 (by decide) ?_
              refine lv_icmp_ge (tgt := 116) hx hb dM_share_77 (by decide) (fun hc19 => ?_) (fun hc19 => ?_)
              · exact absurd hc19 (nI_ge (b := 6) (by omega) (by decide))
              · refine lv_iload_n hx hb dM_share_80 rfl (lv_at hl 3 rfl) ?_
                refine lv_iload hx hb dM_share_81 (lv_at hl 0 rfl) ?_
                refine jv_ishr hx hb dM_share_83 ?_
                refine lv_iconst (v := 1) hx hb dM_share_84 (by decide) ?_
                refine lv_iand hx hb dM_share_85 ?_
                refine lv_iconst (v := 1) hx hb dM_share_86 (by decide) ?_
                refine lv_icmp_ne (tgt := 110) hx hb dM_share_87 (by decide) (fun hc20 => ?_) (fun hc20 => ?_)
                · refine jv_iinc (a := 1) hx hb dM_share_110 hl (k := 0) rfl (by decide) (by decide) (fun x21 ex21 ls hl => ?_)
                  have hl : lv_has ls 7 [(6, .int x21), (4, .int a), (5, .int y), (3, .int x13), (2, .int w), (1, .int q), (0, .ref (g.2.2 0))] := hl
                  refine lv_goto (tgt := 73) hx hb dM_share_113 (by decide) ?_
                  rw [nI_up (by omega)] at ex21
                  have hlB := lv_sub hl [0, 1, 2, 3, 4, 5, 6] rfl
                  have hPB := hP
                  have hSB := hSS
                  subst ex21
                  simp only [ky_lp, if_neg hc20] at K
                  exact ih _ _   _ _ _ hlB hPB hSB (by omega) K
                · refine jv_iinc (a := 1) hx hb dM_share_90 hl (k := 1) rfl (by decide) (by decide) (fun x22 ex22 ls hl => ?_)
                  have hl : lv_has ls 7 [(4, .int x22), (6, .int (nI (6 - (n + 1)))), (5, .int y), (3, .int x13), (2, .int w), (1, .int q), (0, .ref (g.2.2 0))] := hl
                  refine lv_iload hx hb dM_share_93 (lv_at hl 1 rfl) ?_
                  refine lv_iload_n hx hb dM_share_95 rfl (lv_at hl 5 rfl) ?_
                  refine lv_icmp_ge (tgt := 106) hx hb dM_share_96 (by decide) (fun hc23 => ?_) (fun hc23 => ?_)
                  · refine lv_iload hx hb dM_share_106 (lv_at hl 2 rfl) ?_
                    refine jt_topi (fun x24 ex24 => ?_)
                    refine lv_istore (lv' := [(5, .int x24), (4, .int x22), (6, .int (nI (6 - (n + 1)))), (3, .int x13), (2, .int w), (1, .int q), (0, .ref (g.2.2 0))]) hx hb dM_share_108 hl (by decide) rfl (fun ls hl => ?_)
                    refine jv_iinc (a := 1) hx hb dM_share_110 hl (k := 2) rfl (by decide) (by decide) (fun x25 ex25 ls hl => ?_)
                    have hl : lv_has ls 7 [(6, .int x25), (5, .int x24), (4, .int x22), (3, .int x13), (2, .int w), (1, .int q), (0, .ref (g.2.2 0))] := hl
                    refine lv_goto (tgt := 73) hx hb dM_share_113 (by decide) ?_
                    rw [nI_up (by omega)] at ex25
                    have hlB := lv_sub hl [0, 2, 1, 3, 4, 5, 6] rfl
                    have hPB := hP
                    have hSB := hSS
                    subst ex25 ex24 ex22
                    simp only [ky_lp, if_pos hc20, if_pos hc23] at K
                    exact ih _ _   _ _ _ hlB hPB hSB (by omega) K
                  · refine lv_iload hx hb dM_share_99 (lv_at hl 2 rfl) ?_
                    refine lv_iconst (v := 1) hx hb dM_share_101 (by decide) ?_
                    refine lv_iadd hx hb dM_share_102 ?_
                    refine lv_goto (tgt := 108) hx hb dM_share_103 (by decide) ?_
                    refine jt_topi (fun x26 ex26 => ?_)
                    refine lv_istore (lv' := [(5, .int x26), (4, .int x22), (6, .int (nI (6 - (n + 1)))), (3, .int x13), (2, .int w), (1, .int q), (0, .ref (g.2.2 0))]) hx hb dM_share_108 hl (by decide) rfl (fun ls hl => ?_)
                    refine jv_iinc (a := 1) hx hb dM_share_110 hl (k := 2) rfl (by decide) (by decide) (fun x27 ex27 ls hl => ?_)
                    have hl : lv_has ls 7 [(6, .int x27), (5, .int x26), (4, .int x22), (3, .int x13), (2, .int w), (1, .int q), (0, .ref (g.2.2 0))] := hl
                    refine lv_goto (tgt := 73) hx hb dM_share_113 (by decide) ?_
                    rw [nI_up (by omega)] at ex27
                    have hlB := lv_sub hl [0, 2, 1, 3, 4, 5, 6] rfl
                    have hPB := hP
                    have hSB := hSS
                    subst ex27 ex26 ex22
                    simp only [ky_lp, if_pos hc20, if_neg hc23] at K
                    exact ih _ _   _ _ _ hlB hPB hSB (by omega) K
          refine hloop 6 x14 x15   _ _ ls (by have h9 := lv_sub hl [0, 2, 1, 3, 6, 5, 4] rfl; subst ex16; exact h9) hP hSS (by decide) (fun  H locs ls hl hP hSS  => ?_)
          clear hloop
          obtain ⟨y28, ey28⟩ : ∃ z, (ky_lp x13 q 6 x14 x15).1 = z := ⟨_, rfl⟩
          rw [ey28] at hl
          obtain ⟨y29, ey29⟩ : ∃ z, (ky_lp x13 q 6 x14 x15).2 = z := ⟨_, rfl⟩
          rw [ey29] at hl
          refine lv_iload_n hx hb dM_share_116 rfl (lv_at hl 2 rfl) ?_
          refine lv_iload_n hx hb dM_share_117 rfl (lv_at hl 4 rfl) ?_
          refine jv_ishr hx hb dM_share_118 ?_
          refine lv_iconst (v := 1) hx hb dM_share_119 (by decide) ?_
          refine lv_iand hx hb dM_share_120 ?_
          refine lv_if_ne (tgt := 126) hx hb dM_share_121 (by decide) (fun hc30 => ?_) (fun hc30 => ?_)
          · refine lv_iload hx hb dM_share_126 (lv_at hl 1 rfl) ?_
            refine lv_iload_n hx hb dM_share_128 rfl (lv_at hl 3 rfl) ?_
            refine lv_iload hx hb dM_share_129 (lv_at hl 0 rfl) ?_
            refine jv_irem hx hb dM_share_131 (by subst_vars; exact ky_ne (k_s2 hc1).2.2 hc30) ?_
            refine lv_icmp_ge (tgt := 144) hx hb dM_share_132 (by decide) (fun hc31 => ?_) (fun hc31 => ?_)
            · refine lv_iload_n hx hb dM_share_144 rfl (lv_at hl 3 rfl) ?_
              refine lv_iload hx hb dM_share_145 (lv_at hl 0 rfl) ?_
              refine lv_idiv hx hb dM_share_147 (by subst_vars; exact ky_ne (k_s2 hc1).2.2 hc30) ?_
              exact mm_iret (S := (0, ks, kc, rn7, oc8, hd9, hs10, se, bd, (nI b), dk, dp, ct, bo, wi, sh, lf, lc, mo11, ah12)) hx hb hr hlk dM_share_148 hP hSS (by exact ⟨by subst ey29 ey28 ex16 ex15 ex14 ex13; (try simp only [k_shareV, if_pos hc1, if_pos hc2, if_neg hc3, if_pos hc5, if_neg hc30, if_pos hc31]) <;> rfl, rn7, oc8, hd9, hs10, mo11, ah12, by subst ey29 ey28 ex16 ex15 ex14 ex13; (try simp only [if_pos hc1, if_pos hc2, if_neg hc3, if_pos hc5, if_neg hc30, if_pos hc31]) <;> rfl⟩)
            · refine lv_iload_n hx hb dM_share_135 rfl (lv_at hl 3 rfl) ?_
              refine lv_iload hx hb dM_share_136 (lv_at hl 0 rfl) ?_
              refine lv_idiv hx hb dM_share_138 (by subst_vars; exact ky_ne (k_s2 hc1).2.2 hc30) ?_
              refine lv_iconst (v := 1) hx hb dM_share_139 (by decide) ?_
              refine lv_iadd hx hb dM_share_140 ?_
              refine lv_goto (tgt := 148) hx hb dM_share_141 (by decide) ?_
              exact mm_iret (S := (0, ks, kc, rn7, oc8, hd9, hs10, se, bd, (nI b), dk, dp, ct, bo, wi, sh, lf, lc, mo11, ah12)) hx hb hr hlk dM_share_148 hP hSS (by exact ⟨by subst ey29 ey28 ex16 ex15 ex14 ex13; (try simp only [k_shareV, if_pos hc1, if_pos hc2, if_neg hc3, if_pos hc5, if_neg hc30, if_neg hc31]) <;> rfl, rn7, oc8, hd9, hs10, mo11, ah12, by subst ey29 ey28 ex16 ex15 ex14 ex13; (try simp only [if_pos hc1, if_pos hc2, if_neg hc3, if_pos hc5, if_neg hc30, if_neg hc31]) <;> rfl⟩)
          · refine lv_iconst (v := 0) hx hb dM_share_124 (by decide) ?_
            exact mm_iret (S := (0, ks, kc, rn7, oc8, hd9, hs10, se, bd, (nI b), dk, dp, ct, bo, wi, sh, lf, lc, mo11, ah12)) hx hb hr hlk dM_share_125 hP hSS (by exact ⟨by subst ey29 ey28 ex16 ex15 ex14 ex13; (try simp only [k_shareV, if_pos hc1, if_pos hc2, if_neg hc3, if_pos hc5, if_pos hc30]) <;> rfl, rn7, oc8, hd9, hs10, mo11, ah12, by subst ey29 ey28 ex16 ex15 ex14 ex13; (try simp only [if_pos hc1, if_pos hc2, if_neg hc3, if_pos hc5, if_pos hc30]) <;> rfl⟩)
        · refine lv_iconst (v := 3) hx hb dM_share_40 (by decide) ?_
          refine lv_goto (tgt := 45) hx hb dM_share_41 (by decide) ?_
          refine va_put (D := g.1) (ci := 1) (v := .int 3) (ty := .int) (C := "HandTablesModel") (T := T_M) (N := 20) hx hb hts (fun w hw => wd_in (u_inM w hw)) tf_M tf_M_ok n_M hown hK hP (mo_D hap) hSS 0 rfl rfl 0 (by decide) (hts _ (wd_in (gw_mem 457 rfl rfl))) (fun _ h => h) rfl (by decide +kernel) rfl rfl (Nat.le_of_ble_eq_true rfl) dM_share_45 (fun H locs hP _ hSS => ?_)
          have hP : va_P g.1 cl_X (mo_V g 3 ks kc rn oc hd hs se bd (nI b) dk dp ct bo wi sh lf lc mo ah) H := hP
          refine lv_aload_n hx hb dM_share_48 rfl (lv_at hl 0 rfl) ?_
          refine va_get (D := g.1) (ci := 1) (v := .int 3) (C := "HandTablesModel") (T := T_M) (N := 20) hx hb hts (fun w hw => wd_in (u_inM w hw)) hown hK hP 0 rfl rfl 0 (by decide) (hts _ (wd_in (gw_mem 457 rfl rfl))) (fun _ h => h) rfl dM_share_49 ?_
          refine lv_if_le (tgt := 57) hx hb dM_share_52 (by decide) (fun hc32 => ?_) (fun hc32 => ?_)
          · first | exact absurd hc32 (by decide) | exact absurd (by decide) hc32
          refine lv_iconst (v := 0) hx hb dM_share_55 (by decide) ?_
          exact mm_iret (S := (3, ks, kc, rn, oc, hd, hs, se, bd, (nI b), dk, dp, ct, bo, wi, sh, lf, lc, mo, ah)) hx hb hr hlk dM_share_56 hP hSS (by exact ⟨by (try simp only [k_shareV, if_pos hc1, if_pos hc2, if_neg hc3, if_neg hc5]) <;> rfl, rn, oc, hd, hs, mo, ah, by (try simp only [if_pos hc1, if_pos hc2, if_neg hc3, if_neg hc5]) <;> rfl⟩)
    · refine lv_iconst (v := 2) hx hb dM_share_16 (by decide) ?_
      refine lv_goto (tgt := 45) hx hb dM_share_17 (by decide) ?_
      refine va_put (D := g.1) (ci := 1) (v := .int 2) (ty := .int) (C := "HandTablesModel") (T := T_M) (N := 20) hx hb hts (fun w hw => wd_in (u_inM w hw)) tf_M tf_M_ok n_M hown hK hP (mo_D hap) hSS 0 rfl rfl 0 (by decide) (hts _ (wd_in (gw_mem 457 rfl rfl))) (fun _ h => h) rfl (by decide +kernel) rfl rfl (Nat.le_of_ble_eq_true rfl) dM_share_45 (fun H locs hP _ hSS => ?_)
      have hP : va_P g.1 cl_X (mo_V g 2 ks kc rn oc hd hs se bd (nI b) dk dp ct bo wi sh lf lc mo ah) H := hP
      refine lv_aload_n hx hb dM_share_48 rfl (lv_at hl 0 rfl) ?_
      refine va_get (D := g.1) (ci := 1) (v := .int 2) (C := "HandTablesModel") (T := T_M) (N := 20) hx hb hts (fun w hw => wd_in (u_inM w hw)) hown hK hP 0 rfl rfl 0 (by decide) (hts _ (wd_in (gw_mem 457 rfl rfl))) (fun _ h => h) rfl dM_share_49 ?_
      refine lv_if_le (tgt := 57) hx hb dM_share_52 (by decide) (fun hc33 => ?_) (fun hc33 => ?_)
      · first | exact absurd hc33 (by decide) | exact absurd (by decide) hc33
      refine lv_iconst (v := 0) hx hb dM_share_55 (by decide) ?_
      exact mm_iret (S := (2, ks, kc, rn, oc, hd, hs, se, bd, (nI b), dk, dp, ct, bo, wi, sh, lf, lc, mo, ah)) hx hb hr hlk dM_share_56 hP hSS (by exact ⟨by (try simp only [k_shareV, if_pos hc1, if_neg hc2]) <;> rfl, rn, oc, hd, hs, mo, ah, by (try simp only [if_pos hc1, if_neg hc2]) <;> rfl⟩)
  · refine lv_iconst (v := 1) hx hb dM_share_8 (by decide) ?_
    refine lv_goto (tgt := 45) hx hb dM_share_9 (by decide) ?_
    refine va_put (D := g.1) (ci := 1) (v := .int 1) (ty := .int) (C := "HandTablesModel") (T := T_M) (N := 20) hx hb hts (fun w hw => wd_in (u_inM w hw)) tf_M tf_M_ok n_M hown hK hP (mo_D hap) hSS 0 rfl rfl 0 (by decide) (hts _ (wd_in (gw_mem 457 rfl rfl))) (fun _ h => h) rfl (by decide +kernel) rfl rfl (Nat.le_of_ble_eq_true rfl) dM_share_45 (fun H locs hP _ hSS => ?_)
    have hP : va_P g.1 cl_X (mo_V g 1 ks kc rn oc hd hs se bd (nI b) dk dp ct bo wi sh lf lc mo ah) H := hP
    refine lv_aload_n hx hb dM_share_48 rfl (lv_at hl 0 rfl) ?_
    refine va_get (D := g.1) (ci := 1) (v := .int 1) (C := "HandTablesModel") (T := T_M) (N := 20) hx hb hts (fun w hw => wd_in (u_inM w hw)) hown hK hP 0 rfl rfl 0 (by decide) (hts _ (wd_in (gw_mem 457 rfl rfl))) (fun _ h => h) rfl dM_share_49 ?_
    refine lv_if_le (tgt := 57) hx hb dM_share_52 (by decide) (fun hc34 => ?_) (fun hc34 => ?_)
    · first | exact absurd hc34 (by decide) | exact absurd (by decide) hc34
    refine lv_iconst (v := 0) hx hb dM_share_55 (by decide) ?_
    exact mm_iret (S := (1, ks, kc, rn, oc, hd, hs, se, bd, (nI b), dk, dp, ct, bo, wi, sh, lf, lc, mo, ah)) hx hb hr hlk dM_share_56 hP hSS (by exact ⟨by (try simp only [k_shareV, if_neg hc1]) <;> rfl, rn, oc, hd, hs, mo, ah, by (try simp only [if_neg hc1]) <;> rfl⟩)
set_option maxHeartbeats 4000000 in
set_option maxRecDepth 100000 in
theorem cM_countBoard (l : Launch) (g : mo_E) (th : Int32) (ks : Nat → Int32) (kc : Int32) (rn : Nat → Int32) (oc : Nat → Int32) (hd : Nat → Int32) (hs : Int32) (se : Nat → Int32) (bd : Nat → Int32) (b : Nat) (dk : Nat → Int32) (dp : Int32) (ct : Int32) (bo : Int32) (wi : Nat → Int32) (sh : Nat → Int32) (lf : Nat → Int32) (lc : Int32) (mo : Int32) (ah : Int32) (k1 : Int32) (k2 : Int32)  (hap : mo_ap g) (hb5 : b ≤ 5) (hbd : ∀ i, i < b → vp_in (bd i) 52) (hse : k_hse se) (hk1 : k1 < 0 ∨ vp_in k1 52) (hk2 : k2 < 0 ∨ vp_in k2 52) (hN : kq_n b k1 k2 ≤ 7) : mm_M l yM_countBoard bM_countBoard 6 none 6 [.ref (g.2.2 0), .int k1, .int k2] g (th, ks, kc, rn, oc, hd, hs, se, bd, (nI b), dk, dp, ct, bo, wi, sh, lf, lc, mo, ah) (fun v9 S9 => v9 = none ∧ ∃ (rn' : Nat → Int32) (oc' : Nat → Int32) (hd' : Nat → Int32) (hs' : Int32) (mo' : Int32) (ah' : Int32) (bo' : Int32), S9 = (th, ks, kc, rn', oc', hd', hs', se, bd, (nI b), dk, dp, ct, bo', (k_cnt (k_lead se bd b k1 k2) wi sh).1, (k_cnt (k_lead se bd b k1 k2) wi sh).2, lf, lc, mo', ah')) := by
  refine Met.ofW (cc := bM_countBoard) (maxL := 6) (ret := none) (by decide) rfl ?_
  intro p e s m args below meth c s₁ BB hml hv
  obtain ⟨rfl, hB⟩ := hv
  have hx := BB.exec
  have hb := BB.bytes
  have hr := BB.returns
  have hlk := BB.notSynchronized
  have hts := atoms_spec (ws := wd yM_countBoard bM_countBoard 6 none) BB.pre
  have hown : s.vm.findClass "HandTablesModel" = some m.cls := findClass_of_methodNamed BB.named
  have hS : CallFix p m c bM_countBoard 6 s _ (wd yM_countBoard bM_countBoard 6 none) "HandTablesModel" := ⟨hx, hb, hml, hown, hts⟩
  obtain ⟨hP, hK⟩ := hB
  have hP : va_P g.1 cl_X (mo_V g th ks kc rn oc hd hs se bd (nI b) dk dp ct bo wi sh lf lc mo ah) s.heap := hP
  have hSS : va_S (mo_fr g) s.heap s.heap [] := va_S.rf
  have hl := lv_entry ([.ref (g.2.2 0), .int k1, .int k2]) (n := 6) (Nat.le_of_ble_eq_true rfl)
  rw [lg_entry_eq]
  generalize (lg_sl ([.ref (g.2.2 0), .int k1, .int k2]) ++ List.replicate (6 - (lg_sl ([.ref (g.2.2 0), .int k1, .int k2])).length) Slot.unset).toArray = ls at hl ⊢
  have hl : lv_has ls 6 [(0, .ref (g.2.2 0)), (1, .int k1), (2, .int k2)] := hl
  obtain ⟨H, eH⟩ : ∃ H, s.heap = H := ⟨_, rfl⟩
  obtain ⟨locs, eL⟩ : ∃ L, ([] : List Loc) = L := ⟨_, rfl⟩
  have hP : va_P g.1 cl_X (mo_V g th ks kc rn oc hd hs se bd (nI b) dk dp ct bo wi sh lf lc mo ah) H := by rw [← eH]; exact hP
  have hSS : va_S (mo_fr g) s.heap H locs := by rw [← eH, ← eL]; exact hSS
  refine mm_go eH eL ?_
  clear eH eL
  refine lv_aload_n hx hb dM_countBoard_0 rfl (lv_at hl 0 rfl) ?_
  refine lv_dup hx hb dM_countBoard_1 rfl ?_
  refine va_get (D := g.1) (ci := 1) (v := .int bo) (C := "HandTablesModel") (T := T_M) (N := 20) hx hb hts (fun w hw => wd_in (u_inM w hw)) hown hK hP 0 rfl rfl 13 (by decide) (hts _ (wd_in (gw_mem 470 rfl rfl))) (fun _ h => h) rfl dM_countBoard_2 ?_
  refine lv_iconst (v := 1) hx hb dM_countBoard_5 (by decide) ?_
  refine lv_iadd hx hb dM_countBoard_6 ?_
  refine va_put (D := g.1) (ci := 1) (v := .int (bo + 1)) (ty := .int) (C := "HandTablesModel") (T := T_M) (N := 20) hx hb hts (fun w hw => wd_in (u_inM w hw)) tf_M tf_M_ok n_M hown hK hP (mo_D hap) hSS 0 rfl rfl 13 (by decide) (hts _ (wd_in (gw_mem 470 rfl rfl))) (fun _ h => h) rfl (by decide +kernel) rfl rfl (Nat.le_of_ble_eq_true rfl) dM_countBoard_7 (fun H locs hP _ hSS => ?_)
  have hP : va_P g.1 cl_X (mo_V g th ks kc rn oc hd hs se bd (nI b) dk dp ct (bo + 1) wi sh lf lc mo ah) H := hP
  refine lv_aload_n hx hb dM_countBoard_10 rfl (lv_at hl 0 rfl) ?_
  refine lv_iload_n hx hb dM_countBoard_11 rfl (lv_at hl 1 rfl) ?_
  refine lv_iload_n hx hb dM_countBoard_12 rfl (lv_at hl 2 rfl) ?_
  refine mm_V (cM_leaders l g th ks kc rn oc hd hs se bd b dk dp ct (bo + 1) wi sh lf lc mo ah k1 k2 hap hb5 hbd hse hk1 hk2 hN) rfl kM_M_leaders hS hK hP ⟨Nat.le_of_ble_eq_true rfl, Nat.le_of_ble_eq_true rfl⟩ hl.1 rfl (Nat.le_of_ble_eq_true rfl) ⟨Nat.zero_le _, Nat.zero_le _⟩ dM_countBoard_13 hSS (fun v9 S9 H locs hR hP hSS => ?_)
  obtain ⟨rfl, rn1, oc2, hd3, hs4, mo5, ah6, rfl⟩ := hR
  have hP : va_P g.1 cl_X (mo_V g th ks kc rn1 oc2 hd3 hs4 se bd (nI b) dk dp ct (bo + 1) wi sh lf lc mo5 ah6) H := hP
  refine jt_topi (fun x7 ex7 => ?_)
  refine lv_istore_n (lv' := [(3, .int x7), (0, .ref (g.2.2 0)), (1, .int k1), (2, .int k2)]) hx hb dM_countBoard_16 rfl hl (by decide) rfl (fun ls hl => ?_)
  refine lv_iload_n hx hb dM_countBoard_17 rfl (lv_at hl 0 rfl) ?_
  refine lv_iload_n hx hb dM_countBoard_18 rfl (lv_at hl 0 rfl) ?_
  refine lv_iconst (v := 1) hx hb dM_countBoard_19 (by decide) ?_
  refine lv_isub hx hb dM_countBoard_20 ?_
  refine lv_iand hx hb dM_countBoard_21 ?_
  refine lv_if_ne (tgt := 29) hx hb dM_countBoard_22 (by decide) (fun hc8 => ?_) (fun hc8 => ?_)
  · refine lv_iconst (v := 0) hx hb dM_countBoard_29 (by decide) ?_
    refine jt_topi (fun x9 ex9 => ?_)
    refine lv_istore (lv' := [(4, .int x9), (3, .int x7), (0, .ref (g.2.2 0)), (1, .int k1), (2, .int k2)]) hx hb dM_countBoard_30 hl (by decide) rfl (fun ls hl => ?_)
    refine lv_iconst (v := 0) hx hb dM_countBoard_32 (by decide) ?_
    refine jt_topi (fun x10 ex10 => ?_)
    refine lv_istore (lv' := [(5, .int x10), (4, .int x9), (3, .int x7), (0, .ref (g.2.2 0)), (1, .int k1), (2, .int k2)]) hx hb dM_countBoard_33 hl (by decide) rfl (fun ls hl => ?_)
    have hloop : ∀ (n : Nat)   (wwi11 : Nat → Int32) (wsh11 : Nat → Int32) (H : Heap) (locs : List Loc) (ls : Array Slot), lv_has ls 6 [(5, .int (nI (6 - n))), (4, .int x9), (3, .int x7), (0, .ref (g.2.2 0))] → va_P g.1 cl_X (mo_V g th ks kc rn1 oc2 hd3 hs4 se bd (nI b) dk dp ct (bo + 1) wwi11 wsh11 lf lc mo5 ah6) H → va_S (mo_fr g) s.heap H locs → (n ≤ 6) → (∀  (H : Heap) (locs : List Loc) (ls : Array Slot), lv_has ls 6 [(0, .ref (g.2.2 0))] → va_P g.1 cl_X (mo_V g th ks kc rn1 oc2 hd3 hs4 se bd (nI b) dk dp ct (bo + 1) ((kn_lp x7 n wwi11 wsh11).1) ((kn_lp x7 n wwi11 wsh11).2) lf lc mo5 ah6) H → va_S (mo_fr g) s.heap H locs → W p l e (headSpec (wd yM_countBoard bM_countBoard 6 none) (rmD 6 0 0)).room s m ([.ref (g.2.2 0), .int k1, .int k2]).toArray below meth c H locs 0 0 (MQ below (mm_Q g (fun v9 S9 => v9 = none ∧ ∃ (rn' : Nat → Int32) (oc' : Nat → Int32) (hd' : Nat → Int32) (hs' : Int32) (mo' : Int32) (ah' : Int32) (bo' : Int32), S9 = (th, ks, kc, rn', oc', hd', hs', se, bd, (nI b), dk, dp, ct, bo', (k_cnt (k_lead se bd b k1 k2) wi sh).1, (k_cnt (k_lead se bd b k1 k2) wi sh).2, lf, lc, mo', ah'))) ([.ref (g.2.2 0), .int k1, .int k2]).toArray s 0 0 (mo_fr g)) (F0 m 98 ls [])) → W p l e (headSpec (wd yM_countBoard bM_countBoard 6 none) (rmD 6 0 0)).room s m ([.ref (g.2.2 0), .int k1, .int k2]).toArray below meth c H locs 0 0 (MQ below (mm_Q g (fun v9 S9 => v9 = none ∧ ∃ (rn' : Nat → Int32) (oc' : Nat → Int32) (hd' : Nat → Int32) (hs' : Int32) (mo' : Int32) (ah' : Int32) (bo' : Int32), S9 = (th, ks, kc, rn', oc', hd', hs', se, bd, (nI b), dk, dp, ct, bo', (k_cnt (k_lead se bd b k1 k2) wi sh).1, (k_cnt (k_lead se bd b k1 k2) wi sh).2, lf, lc, mo', ah'))) ([.ref (g.2.2 0), .int k1, .int k2]).toArray s 0 0 (mo_fr g)) (F0 m 35 ls []) := by
      intro n
      induction n with
      | zero =>
        intro   wwi11 wsh11 H locs ls hl hP hSS hn K
        refine lv_iload hx hb dM_countBoard_35 (lv_at hl 0 rfl) ?_
        refine lv_bipush (v := 6) hx hb dM_countBoard_37 (by decide) ?_
        refine lv_icmp_ge (tgt := 98) hx hb dM_countBoard_39 (by decide) (fun hc12 => ?_) (fun hc12 => ?_)
        · have hlB := lv_sub hl [3] rfl
          have hPB := hP
          have hSB := hSS
          simp only [kn_lp, if_neg hc8] at K
          exact K  _ _ _ hlB hPB hSB 
        · exact absurd (by decide) hc12
      | succ n ih =>
        intro   wwi11 wsh11 H locs ls hl hP hSS hn K
        refine lv_iload hx hb dM_countBoard_35 (lv_at hl 0 rfl) ?_
        refine lv_bipush (v := 6) hx hb dM_countBoard_37 (by decide) ?_
        refine lv_icmp_ge (tgt := 98) hx hb dM_countBoard_39 (by decide) (fun hc13 => ?_) (fun hc13 => ?_)
        · exact absurd hc13 (nI_ge (b := 6) (by omega) (by decide))
        · refine lv_iload_n hx hb dM_countBoard_42 rfl (lv_at hl 2 rfl) ?_
          refine lv_iload hx hb dM_countBoard_43 (lv_at hl 0 rfl) ?_
          refine jv_ishr hx hb dM_countBoard_45 ?_
          refine lv_iconst (v := 1) hx hb dM_countBoard_46 (by decide) ?_
          refine lv_iand hx hb dM_countBoard_47 ?_
          refine lv_iconst (v := 1) hx hb dM_countBoard_48 (by decide) ?_
          refine lv_icmp_ne (tgt := 71) hx hb dM_countBoard_49 (by decide) (fun hc14 => ?_) (fun hc14 => ?_)
          · refine lv_iload_n hx hb dM_countBoard_71 rfl (lv_at hl 2 rfl) ?_
            refine lv_iload hx hb dM_countBoard_72 (lv_at hl 0 rfl) ?_
            refine jv_ishr hx hb dM_countBoard_74 ?_
            refine lv_iconst (v := 1) hx hb dM_countBoard_75 (by decide) ?_
            refine lv_iand hx hb dM_countBoard_76 ?_
            refine lv_iconst (v := 1) hx hb dM_countBoard_77 (by decide) ?_
            refine lv_icmp_ne (tgt := 92) hx hb dM_countBoard_78 (by decide) (fun hc15 => ?_) (fun hc15 => ?_)
            · refine jv_iinc (a := 1) hx hb dM_countBoard_92 hl (k := 0) rfl (by decide) (by decide) (fun x16 ex16 ls hl => ?_)
              have hl : lv_has ls 6 [(5, .int x16), (4, .int x9), (3, .int x7), (0, .ref (g.2.2 0))] := hl
              refine lv_goto (tgt := 35) hx hb dM_countBoard_95 (by decide) ?_
              rw [nI_up (by omega)] at ex16
              have hlB := lv_sub hl [0, 1, 2, 3] rfl
              have hPB := hP
              have hSB := hSS
              subst ex16
              simp only [kn_lp, if_neg hc8, if_neg hc14] at K
              exact ih   _ _ _ _ _ hlB hPB hSB (by omega) K
            · exact absurd hc15 hc14
          · refine lv_iload hx hb dM_countBoard_52 (lv_at hl 1 rfl) ?_
            refine lv_if_eq (tgt := 71) hx hb dM_countBoard_54 (by decide) (fun hc17 => ?_) (fun hc17 => ?_)
            rotate_left
            · subst ex9; first | exact absurd hc17 (by decide) | exact absurd (by decide) hc17
            refine lv_iload_n hx hb dM_countBoard_71 rfl (lv_at hl 2 rfl) ?_
            refine lv_iload hx hb dM_countBoard_72 (lv_at hl 0 rfl) ?_
            refine jv_ishr hx hb dM_countBoard_74 ?_
            refine lv_iconst (v := 1) hx hb dM_countBoard_75 (by decide) ?_
            refine lv_iand hx hb dM_countBoard_76 ?_
            refine lv_iconst (v := 1) hx hb dM_countBoard_77 (by decide) ?_
            refine lv_icmp_ne (tgt := 92) hx hb dM_countBoard_78 (by decide) (fun hc18 => ?_) (fun hc18 => ?_)
            · exact absurd hc14 hc18
            · refine lv_aload_n hx hb dM_countBoard_81 rfl (lv_at hl 3 rfl) ?_
              refine va_get (D := g.1) (ci := 1) (v := .ref (g.2.2 9)) (C := "HandTablesModel") (T := T_M) (N := 20) hx hb hts (fun w hw => wd_in (u_inM w hw)) hown hK hP 0 rfl rfl 15 (by decide) (hts _ (wd_in (gw_mem 472 rfl rfl))) (fun _ h => h) rfl dM_countBoard_82 ?_
              refine lv_iload hx hb dM_countBoard_85 (lv_at hl 0 rfl) ?_
              refine lv_dup2_11 hx hb dM_countBoard_87 rfl rfl ?_
              refine va_iald hx hb hK hP 9 0 rfl rfl (vp_in_nI (by omega) (by decide)) dM_countBoard_88 ?_
              refine lv_iconst (v := 1) hx hb dM_countBoard_89 (by decide) ?_
              refine lv_iadd hx hb dM_countBoard_90 ?_
              refine va_iast (x := ((wsh11 ((nI (6 - (n + 1))) : Int32).toNatClampNeg) + 1)) hx hb hK hP (mo_D hap) hSS 9 0 rfl rfl (vp_in_nI (by omega) (by decide)) dM_countBoard_91 (fun H locs hP _ hSS => ?_)
              have hP : va_P g.1 cl_X (mo_V g th ks kc rn1 oc2 hd3 hs4 se bd (nI b) dk dp ct (bo + 1) wwi11 (upd wsh11 ((nI (6 - (n + 1))) : Int32).toNatClampNeg ((wsh11 ((nI (6 - (n + 1))) : Int32).toNatClampNeg) + 1)) lf lc mo5 ah6) H := hP
              refine jv_iinc (a := 1) hx hb dM_countBoard_92 hl (k := 0) rfl (by decide) (by decide) (fun x19 ex19 ls hl => ?_)
              have hl : lv_has ls 6 [(5, .int x19), (4, .int x9), (3, .int x7), (0, .ref (g.2.2 0))] := hl
              refine lv_goto (tgt := 35) hx hb dM_countBoard_95 (by decide) ?_
              rw [nI_up (by omega)] at ex19
              have hlB := lv_sub hl [0, 1, 2, 3] rfl
              have hPB := hP
              have hSB := hSS
              subst ex19
              simp only [kn_lp, if_neg hc8, if_pos hc14] at K
              exact ih   _ _ _ _ _ hlB hPB hSB (by omega) K
    refine hloop 6   wi sh _ _ ls (by have h9 := lv_sub hl [0, 1, 2, 3] rfl; subst ex10; exact h9) hP hSS (by decide) (fun  H locs ls hl hP hSS  => ?_)
    clear hloop
    exact mm_vret (S := (th, ks, kc, rn1, oc2, hd3, hs4, se, bd, (nI b), dk, dp, ct, (bo + 1), (kn_lp x7 6 wi sh).1, (kn_lp x7 6 wi sh).2, lf, lc, mo5, ah6)) hx hb hr hlk dM_countBoard_98 hP hSS (by exact ⟨rfl, rn1, oc2, hd3, hs4, mo5, ah6, (bo + 1), by subst ex10 ex9 ex7; rfl⟩)
  · refine lv_iconst (v := 1) hx hb dM_countBoard_25 (by decide) ?_
    refine lv_goto (tgt := 30) hx hb dM_countBoard_26 (by decide) ?_
    refine jt_topi (fun x20 ex20 => ?_)
    refine lv_istore (lv' := [(4, .int x20), (3, .int x7), (0, .ref (g.2.2 0)), (1, .int k1), (2, .int k2)]) hx hb dM_countBoard_30 hl (by decide) rfl (fun ls hl => ?_)
    refine lv_iconst (v := 0) hx hb dM_countBoard_32 (by decide) ?_
    refine jt_topi (fun x21 ex21 => ?_)
    refine lv_istore (lv' := [(5, .int x21), (4, .int x20), (3, .int x7), (0, .ref (g.2.2 0)), (1, .int k1), (2, .int k2)]) hx hb dM_countBoard_33 hl (by decide) rfl (fun ls hl => ?_)
    have hloop : ∀ (n : Nat)   (wwi22 : Nat → Int32) (wsh22 : Nat → Int32) (H : Heap) (locs : List Loc) (ls : Array Slot), lv_has ls 6 [(5, .int (nI (6 - n))), (4, .int x20), (3, .int x7), (0, .ref (g.2.2 0))] → va_P g.1 cl_X (mo_V g th ks kc rn1 oc2 hd3 hs4 se bd (nI b) dk dp ct (bo + 1) wwi22 wsh22 lf lc mo5 ah6) H → va_S (mo_fr g) s.heap H locs → (n ≤ 6) → (∀  (H : Heap) (locs : List Loc) (ls : Array Slot), lv_has ls 6 [(0, .ref (g.2.2 0))] → va_P g.1 cl_X (mo_V g th ks kc rn1 oc2 hd3 hs4 se bd (nI b) dk dp ct (bo + 1) ((kn_lp x7 n wwi22 wsh22).1) ((kn_lp x7 n wwi22 wsh22).2) lf lc mo5 ah6) H → va_S (mo_fr g) s.heap H locs → W p l e (headSpec (wd yM_countBoard bM_countBoard 6 none) (rmD 6 0 0)).room s m ([.ref (g.2.2 0), .int k1, .int k2]).toArray below meth c H locs 0 0 (MQ below (mm_Q g (fun v9 S9 => v9 = none ∧ ∃ (rn' : Nat → Int32) (oc' : Nat → Int32) (hd' : Nat → Int32) (hs' : Int32) (mo' : Int32) (ah' : Int32) (bo' : Int32), S9 = (th, ks, kc, rn', oc', hd', hs', se, bd, (nI b), dk, dp, ct, bo', (k_cnt (k_lead se bd b k1 k2) wi sh).1, (k_cnt (k_lead se bd b k1 k2) wi sh).2, lf, lc, mo', ah'))) ([.ref (g.2.2 0), .int k1, .int k2]).toArray s 0 0 (mo_fr g)) (F0 m 98 ls [])) → W p l e (headSpec (wd yM_countBoard bM_countBoard 6 none) (rmD 6 0 0)).room s m ([.ref (g.2.2 0), .int k1, .int k2]).toArray below meth c H locs 0 0 (MQ below (mm_Q g (fun v9 S9 => v9 = none ∧ ∃ (rn' : Nat → Int32) (oc' : Nat → Int32) (hd' : Nat → Int32) (hs' : Int32) (mo' : Int32) (ah' : Int32) (bo' : Int32), S9 = (th, ks, kc, rn', oc', hd', hs', se, bd, (nI b), dk, dp, ct, bo', (k_cnt (k_lead se bd b k1 k2) wi sh).1, (k_cnt (k_lead se bd b k1 k2) wi sh).2, lf, lc, mo', ah'))) ([.ref (g.2.2 0), .int k1, .int k2]).toArray s 0 0 (mo_fr g)) (F0 m 35 ls []) := by
      intro n
      induction n with
      | zero =>
        intro   wwi22 wsh22 H locs ls hl hP hSS hn K
        refine lv_iload hx hb dM_countBoard_35 (lv_at hl 0 rfl) ?_
        refine lv_bipush (v := 6) hx hb dM_countBoard_37 (by decide) ?_
        refine lv_icmp_ge (tgt := 98) hx hb dM_countBoard_39 (by decide) (fun hc23 => ?_) (fun hc23 => ?_)
        · have hlB := lv_sub hl [3] rfl
          have hPB := hP
          have hSB := hSS
          simp only [kn_lp, if_pos hc8] at K
          exact K  _ _ _ hlB hPB hSB 
        · exact absurd (by decide) hc23
      | succ n ih =>
        intro   wwi22 wsh22 H locs ls hl hP hSS hn K
        refine lv_iload hx hb dM_countBoard_35 (lv_at hl 0 rfl) ?_
        refine lv_bipush (v := 6) hx hb dM_countBoard_37 (by decide) ?_
        refine lv_icmp_ge (tgt := 98) hx hb dM_countBoard_39 (by decide) (fun hc24 => ?_) (fun hc24 => ?_)
        · exact absurd hc24 (nI_ge (b := 6) (by omega) (by decide))
        · refine lv_iload_n hx hb dM_countBoard_42 rfl (lv_at hl 2 rfl) ?_
          refine lv_iload hx hb dM_countBoard_43 (lv_at hl 0 rfl) ?_
          refine jv_ishr hx hb dM_countBoard_45 ?_
          refine lv_iconst (v := 1) hx hb dM_countBoard_46 (by decide) ?_
          refine lv_iand hx hb dM_countBoard_47 ?_
          refine lv_iconst (v := 1) hx hb dM_countBoard_48 (by decide) ?_
          refine lv_icmp_ne (tgt := 71) hx hb dM_countBoard_49 (by decide) (fun hc25 => ?_) (fun hc25 => ?_)
          · refine lv_iload_n hx hb dM_countBoard_71 rfl (lv_at hl 2 rfl) ?_
            refine lv_iload hx hb dM_countBoard_72 (lv_at hl 0 rfl) ?_
            refine jv_ishr hx hb dM_countBoard_74 ?_
            refine lv_iconst (v := 1) hx hb dM_countBoard_75 (by decide) ?_
            refine lv_iand hx hb dM_countBoard_76 ?_
            refine lv_iconst (v := 1) hx hb dM_countBoard_77 (by decide) ?_
            refine lv_icmp_ne (tgt := 92) hx hb dM_countBoard_78 (by decide) (fun hc26 => ?_) (fun hc26 => ?_)
            · refine jv_iinc (a := 1) hx hb dM_countBoard_92 hl (k := 0) rfl (by decide) (by decide) (fun x27 ex27 ls hl => ?_)
              have hl : lv_has ls 6 [(5, .int x27), (4, .int x20), (3, .int x7), (0, .ref (g.2.2 0))] := hl
              refine lv_goto (tgt := 35) hx hb dM_countBoard_95 (by decide) ?_
              rw [nI_up (by omega)] at ex27
              have hlB := lv_sub hl [0, 1, 2, 3] rfl
              have hPB := hP
              have hSB := hSS
              subst ex27
              simp only [kn_lp, if_pos hc8, if_neg hc25] at K
              exact ih   _ _ _ _ _ hlB hPB hSB (by omega) K
            · exact absurd hc26 hc25
          · refine lv_iload hx hb dM_countBoard_52 (lv_at hl 1 rfl) ?_
            refine lv_if_eq (tgt := 71) hx hb dM_countBoard_54 (by decide) (fun hc28 => ?_) (fun hc28 => ?_)
            · subst ex20; first | exact absurd hc28 (by decide) | exact absurd (by decide) hc28
            refine lv_aload_n hx hb dM_countBoard_57 rfl (lv_at hl 3 rfl) ?_
            refine va_get (D := g.1) (ci := 1) (v := .ref (g.2.2 8)) (C := "HandTablesModel") (T := T_M) (N := 20) hx hb hts (fun w hw => wd_in (u_inM w hw)) hown hK hP 0 rfl rfl 14 (by decide) (hts _ (wd_in (gw_mem 471 rfl rfl))) (fun _ h => h) rfl dM_countBoard_58 ?_
            refine lv_iload hx hb dM_countBoard_61 (lv_at hl 0 rfl) ?_
            refine lv_dup2_11 hx hb dM_countBoard_63 rfl rfl ?_
            refine va_iald hx hb hK hP 8 0 rfl rfl (vp_in_nI (by omega) (by decide)) dM_countBoard_64 ?_
            refine lv_iconst (v := 1) hx hb dM_countBoard_65 (by decide) ?_
            refine lv_iadd hx hb dM_countBoard_66 ?_
            refine va_iast (x := ((wwi22 ((nI (6 - (n + 1))) : Int32).toNatClampNeg) + 1)) hx hb hK hP (mo_D hap) hSS 8 0 rfl rfl (vp_in_nI (by omega) (by decide)) dM_countBoard_67 (fun H locs hP _ hSS => ?_)
            have hP : va_P g.1 cl_X (mo_V g th ks kc rn1 oc2 hd3 hs4 se bd (nI b) dk dp ct (bo + 1) (upd wwi22 ((nI (6 - (n + 1))) : Int32).toNatClampNeg ((wwi22 ((nI (6 - (n + 1))) : Int32).toNatClampNeg) + 1)) wsh22 lf lc mo5 ah6) H := hP
            refine lv_goto (tgt := 92) hx hb dM_countBoard_68 (by decide) ?_
            refine jv_iinc (a := 1) hx hb dM_countBoard_92 hl (k := 0) rfl (by decide) (by decide) (fun x29 ex29 ls hl => ?_)
            have hl : lv_has ls 6 [(5, .int x29), (4, .int x20), (3, .int x7), (0, .ref (g.2.2 0))] := hl
            refine lv_goto (tgt := 35) hx hb dM_countBoard_95 (by decide) ?_
            rw [nI_up (by omega)] at ex29
            have hlB := lv_sub hl [0, 1, 2, 3] rfl
            have hPB := hP
            have hSB := hSS
            subst ex29
            simp only [kn_lp, if_pos hc8, if_pos hc25] at K
            exact ih   _ _ _ _ _ hlB hPB hSB (by omega) K
    refine hloop 6   wi sh _ _ ls (by have h9 := lv_sub hl [0, 1, 2, 3] rfl; subst ex21; exact h9) hP hSS (by decide) (fun  H locs ls hl hP hSS  => ?_)
    clear hloop
    exact mm_vret (S := (th, ks, kc, rn1, oc2, hd3, hs4, se, bd, (nI b), dk, dp, ct, (bo + 1), (kn_lp x7 6 wi sh).1, (kn_lp x7 6 wi sh).2, lf, lc, mo5, ah6)) hx hb hr hlk dM_countBoard_98 hP hSS (by exact ⟨rfl, rn1, oc2, hd3, hs4, mo5, ah6, (bo + 1), by subst ex21 ex20 ex7; rfl⟩)
set_option maxHeartbeats 4000000 in
set_option maxRecDepth 100000 in
theorem cM_countAll_5 (l : Launch) (g : mo_E) (th : Int32) (ks : Nat → Int32) (kc : Int32) (rn : Nat → Int32) (oc : Nat → Int32) (hd : Nat → Int32) (hs : Int32) (se : Nat → Int32) (bd : Nat → Int32) (dk : Nat → Int32) (dp : Int32) (bo : Int32) (wi : Nat → Int32) (sh : Nat → Int32) (lf : Nat → Int32) (lc : Int32) (mo : Int32) (ah : Int32)   (hap : mo_ap g) (hbd : ∀ i, i < 5 → vp_in (bd i) 52) (hse : k_hse se) : mm_M l yM_countAll bM_countAll 3 none 7 [.ref (g.2.2 0)] g (th, ks, kc, rn, oc, hd, hs, se, bd, (nI 5), dk, dp, 0, bo, wi, sh, lf, lc, mo, ah) (fun v9 S9 => v9 = none ∧ ∃ (rn' : Nat → Int32) (oc' : Nat → Int32) (hd' : Nat → Int32) (hs' : Int32) (mo' : Int32) (ah' : Int32) (bo' : Int32) (lf' : Nat → Int32) (lc' : Int32), S9 = (th, ks, kc, rn', oc', hd', hs', se, bd, (nI 5), dk, dp, 1, bo', (k_all se bd 5 lf wi sh).1, (k_all se bd 5 lf wi sh).2, lf', lc', mo', ah')) := by
  refine Met.ofW (cc := bM_countAll) (maxL := 3) (ret := none) (by decide) rfl ?_
  intro p e s m args below meth c s₁ BB hml hv
  obtain ⟨rfl, hB⟩ := hv
  have hx := BB.exec
  have hb := BB.bytes
  have hr := BB.returns
  have hlk := BB.notSynchronized
  have hts := atoms_spec (ws := wd yM_countAll bM_countAll 3 none) BB.pre
  have hown : s.vm.findClass "HandTablesModel" = some m.cls := findClass_of_methodNamed BB.named
  have hS : CallFix p m c bM_countAll 3 s _ (wd yM_countAll bM_countAll 3 none) "HandTablesModel" := ⟨hx, hb, hml, hown, hts⟩
  obtain ⟨hP, hK⟩ := hB
  have hP : va_P g.1 cl_X (mo_V g th ks kc rn oc hd hs se bd (nI 5) dk dp 0 bo wi sh lf lc mo ah) s.heap := hP
  have hSS : va_S (mo_fr g) s.heap s.heap [] := va_S.rf
  have hl := lv_entry ([.ref (g.2.2 0)]) (n := 3) (Nat.le_of_ble_eq_true rfl)
  rw [lg_entry_eq]
  generalize (lg_sl ([.ref (g.2.2 0)]) ++ List.replicate (3 - (lg_sl ([.ref (g.2.2 0)])).length) Slot.unset).toArray = ls at hl ⊢
  have hl : lv_has ls 3 [(0, .ref (g.2.2 0))] := hl
  obtain ⟨H, eH⟩ : ∃ H, s.heap = H := ⟨_, rfl⟩
  obtain ⟨locs, eL⟩ : ∃ L, ([] : List Loc) = L := ⟨_, rfl⟩
  have hP : va_P g.1 cl_X (mo_V g th ks kc rn oc hd hs se bd (nI 5) dk dp 0 bo wi sh lf lc mo ah) H := by rw [← eH]; exact hP
  have hSS : va_S (mo_fr g) s.heap H locs := by rw [← eH, ← eL]; exact hSS
  refine mm_go eH eL ?_
  clear eH eL
  refine lv_aload_n hx hb dM_countAll_0 rfl (lv_at hl 0 rfl) ?_
  refine va_get (D := g.1) (ci := 1) (v := .int 0) (C := "HandTablesModel") (T := T_M) (N := 20) hx hb hts (fun w hw => wd_in (u_inM w hw)) hown hK hP 0 rfl rfl 12 (by decide) (hts _ (wd_in (gw_mem 469 rfl rfl))) (fun _ h => h) rfl dM_countAll_1 ?_
  refine lv_if_eq (tgt := 8) hx hb dM_countAll_4 (by decide) (fun hc1 => ?_) (fun hc1 => ?_)
  rotate_left
  · first | exact absurd hc1 (by decide) | exact absurd (by decide) hc1
  refine lv_aload_n hx hb dM_countAll_8 rfl (lv_at hl 0 rfl) ?_
  refine lv_iconst (v := 1) hx hb dM_countAll_9 (by decide) ?_
  refine va_put (D := g.1) (ci := 1) (v := .int 1) (ty := .boolean) (C := "HandTablesModel") (T := T_M) (N := 20) hx hb hts (fun w hw => wd_in (u_inM w hw)) tf_M tf_M_ok n_M hown hK hP (mo_D hap) hSS 0 rfl rfl 12 (by decide) (hts _ (wd_in (gw_mem 469 rfl rfl))) (fun _ h => h) rfl (by decide +kernel) rfl rfl (Nat.le_of_ble_eq_true rfl) dM_countAll_10 (fun H locs hP _ hSS => ?_)
  have hP : va_P g.1 cl_X (mo_V g th ks kc rn oc hd hs se bd (nI 5) dk dp 1 bo wi sh lf lc mo ah) H := hP
  refine lv_aload_n hx hb dM_countAll_13 rfl (lv_at hl 0 rfl) ?_
  refine lv_iconst (v := 0) hx hb dM_countAll_14 (by decide) ?_
  refine va_put (D := g.1) (ci := 1) (v := .int 0) (ty := .int) (C := "HandTablesModel") (T := T_M) (N := 20) hx hb hts (fun w hw => wd_in (u_inM w hw)) tf_M tf_M_ok n_M hown hK hP (mo_D hap) hSS 0 rfl rfl 13 (by decide) (hts _ (wd_in (gw_mem 470 rfl rfl))) (fun _ h => h) rfl (by decide +kernel) rfl rfl (Nat.le_of_ble_eq_true rfl) dM_countAll_15 (fun H locs hP _ hSS => ?_)
  have hP : va_P g.1 cl_X (mo_V g th ks kc rn oc hd hs se bd (nI 5) dk dp 1 0 wi sh lf lc mo ah) H := hP
  refine lv_iconst (v := 0) hx hb dM_countAll_18 (by decide) ?_
  refine jt_topi (fun x2 ex2 => ?_)
  refine lv_istore_n (lv' := [(1, .int x2), (0, .ref (g.2.2 0))]) hx hb dM_countAll_19 rfl hl (by decide) rfl (fun ls hl => ?_)
  have hloop : ∀ (n : Nat)   (wwi3 : Nat → Int32) (wsh3 : Nat → Int32) (H : Heap) (locs : List Loc) (ls : Array Slot), lv_has ls 3 [(1, .int (nI (6 - n))), (0, .ref (g.2.2 0))] → va_P g.1 cl_X (mo_V g th ks kc rn oc hd hs se bd (nI 5) dk dp 1 0 wwi3 wsh3 lf lc mo ah) H → va_S (mo_fr g) s.heap H locs → (n ≤ 6) → (∀  (H : Heap) (locs : List Loc) (ls : Array Slot), lv_has ls 3 [(0, .ref (g.2.2 0))] → va_P g.1 cl_X (mo_V g th ks kc rn oc hd hs se bd (nI 5) dk dp 1 0 (kz6 n wwi3) (kz6 n wsh3) lf lc mo ah) H → va_S (mo_fr g) s.heap H locs → W p l e (headSpec (wd yM_countAll bM_countAll 3 none) (rmD 7 0 0)).room s m ([.ref (g.2.2 0)]).toArray below meth c H locs 0 0 (MQ below (mm_Q g (fun v9 S9 => v9 = none ∧ ∃ (rn' : Nat → Int32) (oc' : Nat → Int32) (hd' : Nat → Int32) (hs' : Int32) (mo' : Int32) (ah' : Int32) (bo' : Int32) (lf' : Nat → Int32) (lc' : Int32), S9 = (th, ks, kc, rn', oc', hd', hs', se, bd, (nI 5), dk, dp, 1, bo', (k_all se bd 5 lf wi sh).1, (k_all se bd 5 lf wi sh).2, lf', lc', mo', ah'))) ([.ref (g.2.2 0)]).toArray s 0 0 (mo_fr g)) (F0 m 46 ls [])) → W p l e (headSpec (wd yM_countAll bM_countAll 3 none) (rmD 7 0 0)).room s m ([.ref (g.2.2 0)]).toArray below meth c H locs 0 0 (MQ below (mm_Q g (fun v9 S9 => v9 = none ∧ ∃ (rn' : Nat → Int32) (oc' : Nat → Int32) (hd' : Nat → Int32) (hs' : Int32) (mo' : Int32) (ah' : Int32) (bo' : Int32) (lf' : Nat → Int32) (lc' : Int32), S9 = (th, ks, kc, rn', oc', hd', hs', se, bd, (nI 5), dk, dp, 1, bo', (k_all se bd 5 lf wi sh).1, (k_all se bd 5 lf wi sh).2, lf', lc', mo', ah'))) ([.ref (g.2.2 0)]).toArray s 0 0 (mo_fr g)) (F0 m 20 ls []) := by
    intro n
    induction n with
    | zero =>
      intro   wwi3 wsh3 H locs ls hl hP hSS hn K
      refine lv_iload_n hx hb dM_countAll_20 rfl (lv_at hl 0 rfl) ?_
      refine lv_bipush (v := 6) hx hb dM_countAll_21 (by decide) ?_
      refine lv_icmp_ge (tgt := 46) hx hb dM_countAll_23 (by decide) (fun hc4 => ?_) (fun hc4 => ?_)
      · have hlB := lv_sub hl [1] rfl
        have hPB := hP
        have hSB := hSS
        simp only [kz6] at K
        exact K  _ _ _ hlB hPB hSB 
      · exact absurd (by decide) hc4
    | succ n ih =>
      intro   wwi3 wsh3 H locs ls hl hP hSS hn K
      refine lv_iload_n hx hb dM_countAll_20 rfl (lv_at hl 0 rfl) ?_
      refine lv_bipush (v := 6) hx hb dM_countAll_21 (by decide) ?_
      refine lv_icmp_ge (tgt := 46) hx hb dM_countAll_23 (by decide) (fun hc5 => ?_) (fun hc5 => ?_)
      · exact absurd hc5 (nI_ge (b := 6) (by omega) (by decide))
      · refine lv_aload_n hx hb dM_countAll_26 rfl (lv_at hl 1 rfl) ?_
        refine va_get (D := g.1) (ci := 1) (v := .ref (g.2.2 8)) (C := "HandTablesModel") (T := T_M) (N := 20) hx hb hts (fun w hw => wd_in (u_inM w hw)) hown hK hP 0 rfl rfl 14 (by decide) (hts _ (wd_in (gw_mem 471 rfl rfl))) (fun _ h => h) rfl dM_countAll_27 ?_
        refine lv_iload_n hx hb dM_countAll_30 rfl (lv_at hl 0 rfl) ?_
        refine lv_iconst (v := 0) hx hb dM_countAll_31 (by decide) ?_
        refine va_iast (x := 0) hx hb hK hP (mo_D hap) hSS 8 0 rfl rfl (vp_in_nI (by omega) (by decide)) dM_countAll_32 (fun H locs hP _ hSS => ?_)
        have hP : va_P g.1 cl_X (mo_V g th ks kc rn oc hd hs se bd (nI 5) dk dp 1 0 (upd wwi3 ((nI (6 - (n + 1))) : Int32).toNatClampNeg 0) wsh3 lf lc mo ah) H := hP
        refine lv_aload_n hx hb dM_countAll_33 rfl (lv_at hl 1 rfl) ?_
        refine va_get (D := g.1) (ci := 1) (v := .ref (g.2.2 9)) (C := "HandTablesModel") (T := T_M) (N := 20) hx hb hts (fun w hw => wd_in (u_inM w hw)) hown hK hP 0 rfl rfl 15 (by decide) (hts _ (wd_in (gw_mem 472 rfl rfl))) (fun _ h => h) rfl dM_countAll_34 ?_
        refine lv_iload_n hx hb dM_countAll_37 rfl (lv_at hl 0 rfl) ?_
        refine lv_iconst (v := 0) hx hb dM_countAll_38 (by decide) ?_
        refine va_iast (x := 0) hx hb hK hP (mo_D hap) hSS 9 0 rfl rfl (vp_in_nI (by omega) (by decide)) dM_countAll_39 (fun H locs hP _ hSS => ?_)
        have hP : va_P g.1 cl_X (mo_V g th ks kc rn oc hd hs se bd (nI 5) dk dp 1 0 (upd wwi3 ((nI (6 - (n + 1))) : Int32).toNatClampNeg 0) (upd wsh3 ((nI (6 - (n + 1))) : Int32).toNatClampNeg 0) lf lc mo ah) H := hP
        refine jv_iinc (a := 1) hx hb dM_countAll_40 hl (k := 0) rfl (by decide) (by decide) (fun x6 ex6 ls hl => ?_)
        have hl : lv_has ls 3 [(1, .int x6), (0, .ref (g.2.2 0))] := hl
        refine lv_goto (tgt := 20) hx hb dM_countAll_43 (by decide) ?_
        rw [nI_up (by omega)] at ex6
        have hlB := lv_sub hl [0, 1] rfl
        have hPB := hP
        have hSB := hSS
        subst ex6
        simp only [kz6] at K
        exact ih   _ _ _ _ _ hlB hPB hSB (by omega) K
  refine hloop 6   wi sh _ _ ls (by have h9 := lv_sub hl [0, 1] rfl; subst ex2; exact h9) hP hSS (by decide) (fun  H locs ls hl hP hSS  => ?_)
  clear hloop
  refine lv_aload_n hx hb dM_countAll_46 rfl (lv_at hl 0 rfl) ?_
  refine mm_V (cM_findLeft l g th ks kc rn oc hd hs se bd 5 dk dp 1 0 (kz6 6 wi) (kz6 6 sh) lf lc mo ah hap (by decide)) rfl kM_M_findLeft hS hK hP ⟨Nat.le_of_ble_eq_true rfl, Nat.le_of_ble_eq_true rfl⟩ hl.1 rfl (Nat.le_of_ble_eq_true rfl) ⟨Nat.zero_le _, Nat.zero_le _⟩ dM_countAll_47 hSS (fun v9 S9 H locs hR hP hSS => ?_)
  obtain ⟨rfl, rfl⟩ := hR
  have hP : va_P g.1 cl_X (mo_V g th ks kc rn oc hd hs se bd (nI 5) dk dp 1 0 (kz6 6 wi) (kz6 6 sh) ((k_left se bd 5 lf).2) ((k_left se bd 5 lf).1) mo ah) H := hP
  obtain ⟨L, hL, hL1, hL2⟩ := k_left_ok se bd 5 lf
  rw [hL1] at hP
  obtain ⟨lf2, elf⟩ : ∃ z, (k_left se bd 5 lf).2 = z := ⟨_, rfl⟩
  rw [elf] at hL2 hP
  have hP : va_P g.1 cl_X (mo_V g th ks kc rn oc hd hs se bd (nI 5) dk dp 1 0 (kz6 6 wi) (kz6 6 sh) lf2 (nI L) mo ah) H := hP
  refine lv_aload_n hx hb dM_countAll_50 rfl (lv_at hl 0 rfl) ?_
  refine va_get (D := g.1) (ci := 1) (v := .int (nI 5)) (C := "HandTablesModel") (T := T_M) (N := 20) hx hb hts (fun w hw => wd_in (u_inM w hw)) hown hK hP 0 rfl rfl 9 (by decide) (hts _ (wd_in (gw_mem 466 rfl rfl))) (fun _ h => h) rfl dM_countAll_51 ?_
  refine lv_iconst (v := 5) hx hb dM_countAll_54 (by decide) ?_
  refine lv_icmp_ne (tgt := 64) hx hb dM_countAll_55 (by decide) (fun hc7 => ?_) (fun hc7 => ?_)
  · first | exact absurd hc7 (by decide) | exact absurd (by decide) hc7
  refine lv_aload_n hx hb dM_countAll_58 rfl (lv_at hl 0 rfl) ?_
  refine lv_iconst (v := (-1)) hx hb dM_countAll_59 (by decide) ?_
  refine lv_iconst (v := (-1)) hx hb dM_countAll_60 (by decide) ?_
  refine mm_V (cM_countBoard l g th ks kc rn oc hd hs se bd 5 dk dp 1 0 (kz6 6 wi) (kz6 6 sh) lf2 (nI L) mo ah (-1) (-1) hap (by decide) hbd hse (Or.inl (by decide)) (Or.inl (by decide)) (kq_n0 (by decide))) rfl kM_M_countBoard hS hK hP ⟨Nat.le_of_ble_eq_true rfl, Nat.le_of_ble_eq_true rfl⟩ hl.1 rfl (Nat.le_of_ble_eq_true rfl) ⟨Nat.zero_le _, Nat.zero_le _⟩ dM_countAll_61 hSS (fun v9 S9 H locs hR hP hSS => ?_)
  obtain ⟨rfl, rn8, oc9, hd10, hs11, mo12, ah13, bo14, rfl⟩ := hR
  have hP : va_P g.1 cl_X (mo_V g th ks kc rn8 oc9 hd10 hs11 se bd (nI 5) dk dp 1 bo14 ((k_cnt (k_lead se bd 5 (-1) (-1)) (kz6 6 wi) (kz6 6 sh)).1) ((k_cnt (k_lead se bd 5 (-1) (-1)) (kz6 6 wi) (kz6 6 sh)).2) lf2 (nI L) mo12 ah13) H := hP
  refine lv_iconst (v := 0) hx hb dM_countAll_64 (by decide) ?_
  refine jt_topi (fun x15 ex15 => ?_)
  refine lv_istore_n (lv' := [(1, .int x15), (0, .ref (g.2.2 0))]) hx hb dM_countAll_65 rfl hl (by decide) rfl (fun ls hl => ?_)
  refine lv_iload_n hx hb dM_countAll_66 rfl (lv_at hl 0 rfl) ?_
  refine lv_aload_n hx hb dM_countAll_67 rfl (lv_at hl 1 rfl) ?_
  refine va_get (D := g.1) (ci := 1) (v := .int (nI L)) (C := "HandTablesModel") (T := T_M) (N := 20) hx hb hts (fun w hw => wd_in (u_inM w hw)) hown hK hP 0 rfl rfl 17 (by decide) (hts _ (wd_in (gw_mem 474 rfl rfl))) (fun _ h => h) rfl dM_countAll_68 ?_
  refine lv_icmp_ge (tgt := 149) hx hb dM_countAll_71 (by decide) (fun hc16 => ?_) (fun hc16 => ?_)
  · exact mm_vret (S := (th, ks, kc, rn8, oc9, hd10, hs11, se, bd, (nI 5), dk, dp, 1, bo14, (k_cnt (k_lead se bd 5 (-1) (-1)) (kz6 6 wi) (kz6 6 sh)).1, (k_cnt (k_lead se bd 5 (-1) (-1)) (kz6 6 wi) (kz6 6 sh)).2, lf2, (nI L), mo12, ah13)) hx hb hr hlk dM_countAll_149 hP hSS (by exact ⟨rfl, rn8, oc9, hd10, hs11, mo12, ah13, bo14, lf2, (nI L), by subst ex15 ex2; subst elf; simp only [k_all, hL1, nI_clamp (show L < 2 ^ 31 by omega)]; rfl⟩)
  · refine lv_aload_n hx hb dM_countAll_74 rfl (lv_at hl 1 rfl) ?_
    refine va_get (D := g.1) (ci := 1) (v := .int (nI 5)) (C := "HandTablesModel") (T := T_M) (N := 20) hx hb hts (fun w hw => wd_in (u_inM w hw)) hown hK hP 0 rfl rfl 9 (by decide) (hts _ (wd_in (gw_mem 466 rfl rfl))) (fun _ h => h) rfl dM_countAll_75 ?_
    refine lv_iconst (v := 5) hx hb dM_countAll_78 (by decide) ?_
    refine lv_icmp_ge (tgt := 149) hx hb dM_countAll_79 (by decide) (fun hc17 => ?_) (fun hc17 => ?_)
    rotate_left
    · first | exact absurd hc17 (by decide) | exact absurd (by decide) hc17
    exact mm_vret (S := (th, ks, kc, rn8, oc9, hd10, hs11, se, bd, (nI 5), dk, dp, 1, bo14, (k_cnt (k_lead se bd 5 (-1) (-1)) (kz6 6 wi) (kz6 6 sh)).1, (k_cnt (k_lead se bd 5 (-1) (-1)) (kz6 6 wi) (kz6 6 sh)).2, lf2, (nI L), mo12, ah13)) hx hb hr hlk dM_countAll_149 hP hSS (by exact ⟨rfl, rn8, oc9, hd10, hs11, mo12, ah13, bo14, lf2, (nI L), by subst ex15 ex2; subst elf; simp only [k_all, hL1, nI_clamp (show L < 2 ^ 31 by omega)]; rfl⟩)
set_option maxHeartbeats 4000000 in
set_option maxRecDepth 100000 in
theorem cM_countAll_4 (l : Launch) (g : mo_E) (th : Int32) (ks : Nat → Int32) (kc : Int32) (rn : Nat → Int32) (oc : Nat → Int32) (hd : Nat → Int32) (hs : Int32) (se : Nat → Int32) (bd : Nat → Int32) (dk : Nat → Int32) (dp : Int32) (bo : Int32) (wi : Nat → Int32) (sh : Nat → Int32) (lf : Nat → Int32) (lc : Int32) (mo : Int32) (ah : Int32)   (hap : mo_ap g) (hbd : ∀ i, i < 4 → vp_in (bd i) 52) (hse : k_hse se) : mm_M l yM_countAll bM_countAll 3 none 7 [.ref (g.2.2 0)] g (th, ks, kc, rn, oc, hd, hs, se, bd, (nI 4), dk, dp, 0, bo, wi, sh, lf, lc, mo, ah) (fun v9 S9 => v9 = none ∧ ∃ (rn' : Nat → Int32) (oc' : Nat → Int32) (hd' : Nat → Int32) (hs' : Int32) (mo' : Int32) (ah' : Int32) (bo' : Int32) (lf' : Nat → Int32) (lc' : Int32), S9 = (th, ks, kc, rn', oc', hd', hs', se, bd, (nI 4), dk, dp, 1, bo', (k_all se bd 4 lf wi sh).1, (k_all se bd 4 lf wi sh).2, lf', lc', mo', ah')) := by
  refine Met.ofW (cc := bM_countAll) (maxL := 3) (ret := none) (by decide) rfl ?_
  intro p e s m args below meth c s₁ BB hml hv
  obtain ⟨rfl, hB⟩ := hv
  have hx := BB.exec
  have hb := BB.bytes
  have hr := BB.returns
  have hlk := BB.notSynchronized
  have hts := atoms_spec (ws := wd yM_countAll bM_countAll 3 none) BB.pre
  have hown : s.vm.findClass "HandTablesModel" = some m.cls := findClass_of_methodNamed BB.named
  have hS : CallFix p m c bM_countAll 3 s _ (wd yM_countAll bM_countAll 3 none) "HandTablesModel" := ⟨hx, hb, hml, hown, hts⟩
  obtain ⟨hP, hK⟩ := hB
  have hP : va_P g.1 cl_X (mo_V g th ks kc rn oc hd hs se bd (nI 4) dk dp 0 bo wi sh lf lc mo ah) s.heap := hP
  have hSS : va_S (mo_fr g) s.heap s.heap [] := va_S.rf
  have hl := lv_entry ([.ref (g.2.2 0)]) (n := 3) (Nat.le_of_ble_eq_true rfl)
  rw [lg_entry_eq]
  generalize (lg_sl ([.ref (g.2.2 0)]) ++ List.replicate (3 - (lg_sl ([.ref (g.2.2 0)])).length) Slot.unset).toArray = ls at hl ⊢
  have hl : lv_has ls 3 [(0, .ref (g.2.2 0))] := hl
  obtain ⟨H, eH⟩ : ∃ H, s.heap = H := ⟨_, rfl⟩
  obtain ⟨locs, eL⟩ : ∃ L, ([] : List Loc) = L := ⟨_, rfl⟩
  have hP : va_P g.1 cl_X (mo_V g th ks kc rn oc hd hs se bd (nI 4) dk dp 0 bo wi sh lf lc mo ah) H := by rw [← eH]; exact hP
  have hSS : va_S (mo_fr g) s.heap H locs := by rw [← eH, ← eL]; exact hSS
  refine mm_go eH eL ?_
  clear eH eL
  refine lv_aload_n hx hb dM_countAll_0 rfl (lv_at hl 0 rfl) ?_
  refine va_get (D := g.1) (ci := 1) (v := .int 0) (C := "HandTablesModel") (T := T_M) (N := 20) hx hb hts (fun w hw => wd_in (u_inM w hw)) hown hK hP 0 rfl rfl 12 (by decide) (hts _ (wd_in (gw_mem 469 rfl rfl))) (fun _ h => h) rfl dM_countAll_1 ?_
  refine lv_if_eq (tgt := 8) hx hb dM_countAll_4 (by decide) (fun hc1 => ?_) (fun hc1 => ?_)
  rotate_left
  · first | exact absurd hc1 (by decide) | exact absurd (by decide) hc1
  refine lv_aload_n hx hb dM_countAll_8 rfl (lv_at hl 0 rfl) ?_
  refine lv_iconst (v := 1) hx hb dM_countAll_9 (by decide) ?_
  refine va_put (D := g.1) (ci := 1) (v := .int 1) (ty := .boolean) (C := "HandTablesModel") (T := T_M) (N := 20) hx hb hts (fun w hw => wd_in (u_inM w hw)) tf_M tf_M_ok n_M hown hK hP (mo_D hap) hSS 0 rfl rfl 12 (by decide) (hts _ (wd_in (gw_mem 469 rfl rfl))) (fun _ h => h) rfl (by decide +kernel) rfl rfl (Nat.le_of_ble_eq_true rfl) dM_countAll_10 (fun H locs hP _ hSS => ?_)
  have hP : va_P g.1 cl_X (mo_V g th ks kc rn oc hd hs se bd (nI 4) dk dp 1 bo wi sh lf lc mo ah) H := hP
  refine lv_aload_n hx hb dM_countAll_13 rfl (lv_at hl 0 rfl) ?_
  refine lv_iconst (v := 0) hx hb dM_countAll_14 (by decide) ?_
  refine va_put (D := g.1) (ci := 1) (v := .int 0) (ty := .int) (C := "HandTablesModel") (T := T_M) (N := 20) hx hb hts (fun w hw => wd_in (u_inM w hw)) tf_M tf_M_ok n_M hown hK hP (mo_D hap) hSS 0 rfl rfl 13 (by decide) (hts _ (wd_in (gw_mem 470 rfl rfl))) (fun _ h => h) rfl (by decide +kernel) rfl rfl (Nat.le_of_ble_eq_true rfl) dM_countAll_15 (fun H locs hP _ hSS => ?_)
  have hP : va_P g.1 cl_X (mo_V g th ks kc rn oc hd hs se bd (nI 4) dk dp 1 0 wi sh lf lc mo ah) H := hP
  refine lv_iconst (v := 0) hx hb dM_countAll_18 (by decide) ?_
  refine jt_topi (fun x2 ex2 => ?_)
  refine lv_istore_n (lv' := [(1, .int x2), (0, .ref (g.2.2 0))]) hx hb dM_countAll_19 rfl hl (by decide) rfl (fun ls hl => ?_)
  have hloop : ∀ (n : Nat)   (wwi3 : Nat → Int32) (wsh3 : Nat → Int32) (H : Heap) (locs : List Loc) (ls : Array Slot), lv_has ls 3 [(1, .int (nI (6 - n))), (0, .ref (g.2.2 0))] → va_P g.1 cl_X (mo_V g th ks kc rn oc hd hs se bd (nI 4) dk dp 1 0 wwi3 wsh3 lf lc mo ah) H → va_S (mo_fr g) s.heap H locs → (n ≤ 6) → (∀  (H : Heap) (locs : List Loc) (ls : Array Slot), lv_has ls 3 [(0, .ref (g.2.2 0))] → va_P g.1 cl_X (mo_V g th ks kc rn oc hd hs se bd (nI 4) dk dp 1 0 (kz6 n wwi3) (kz6 n wsh3) lf lc mo ah) H → va_S (mo_fr g) s.heap H locs → W p l e (headSpec (wd yM_countAll bM_countAll 3 none) (rmD 7 0 0)).room s m ([.ref (g.2.2 0)]).toArray below meth c H locs 0 0 (MQ below (mm_Q g (fun v9 S9 => v9 = none ∧ ∃ (rn' : Nat → Int32) (oc' : Nat → Int32) (hd' : Nat → Int32) (hs' : Int32) (mo' : Int32) (ah' : Int32) (bo' : Int32) (lf' : Nat → Int32) (lc' : Int32), S9 = (th, ks, kc, rn', oc', hd', hs', se, bd, (nI 4), dk, dp, 1, bo', (k_all se bd 4 lf wi sh).1, (k_all se bd 4 lf wi sh).2, lf', lc', mo', ah'))) ([.ref (g.2.2 0)]).toArray s 0 0 (mo_fr g)) (F0 m 46 ls [])) → W p l e (headSpec (wd yM_countAll bM_countAll 3 none) (rmD 7 0 0)).room s m ([.ref (g.2.2 0)]).toArray below meth c H locs 0 0 (MQ below (mm_Q g (fun v9 S9 => v9 = none ∧ ∃ (rn' : Nat → Int32) (oc' : Nat → Int32) (hd' : Nat → Int32) (hs' : Int32) (mo' : Int32) (ah' : Int32) (bo' : Int32) (lf' : Nat → Int32) (lc' : Int32), S9 = (th, ks, kc, rn', oc', hd', hs', se, bd, (nI 4), dk, dp, 1, bo', (k_all se bd 4 lf wi sh).1, (k_all se bd 4 lf wi sh).2, lf', lc', mo', ah'))) ([.ref (g.2.2 0)]).toArray s 0 0 (mo_fr g)) (F0 m 20 ls []) := by
    intro n
    induction n with
    | zero =>
      intro   wwi3 wsh3 H locs ls hl hP hSS hn K
      refine lv_iload_n hx hb dM_countAll_20 rfl (lv_at hl 0 rfl) ?_
      refine lv_bipush (v := 6) hx hb dM_countAll_21 (by decide) ?_
      refine lv_icmp_ge (tgt := 46) hx hb dM_countAll_23 (by decide) (fun hc4 => ?_) (fun hc4 => ?_)
      · have hlB := lv_sub hl [1] rfl
        have hPB := hP
        have hSB := hSS
        simp only [kz6] at K
        exact K  _ _ _ hlB hPB hSB 
      · exact absurd (by decide) hc4
    | succ n ih =>
      intro   wwi3 wsh3 H locs ls hl hP hSS hn K
      refine lv_iload_n hx hb dM_countAll_20 rfl (lv_at hl 0 rfl) ?_
      refine lv_bipush (v := 6) hx hb dM_countAll_21 (by decide) ?_
      refine lv_icmp_ge (tgt := 46) hx hb dM_countAll_23 (by decide) (fun hc5 => ?_) (fun hc5 => ?_)
      · exact absurd hc5 (nI_ge (b := 6) (by omega) (by decide))
      · refine lv_aload_n hx hb dM_countAll_26 rfl (lv_at hl 1 rfl) ?_
        refine va_get (D := g.1) (ci := 1) (v := .ref (g.2.2 8)) (C := "HandTablesModel") (T := T_M) (N := 20) hx hb hts (fun w hw => wd_in (u_inM w hw)) hown hK hP 0 rfl rfl 14 (by decide) (hts _ (wd_in (gw_mem 471 rfl rfl))) (fun _ h => h) rfl dM_countAll_27 ?_
        refine lv_iload_n hx hb dM_countAll_30 rfl (lv_at hl 0 rfl) ?_
        refine lv_iconst (v := 0) hx hb dM_countAll_31 (by decide) ?_
        refine va_iast (x := 0) hx hb hK hP (mo_D hap) hSS 8 0 rfl rfl (vp_in_nI (by omega) (by decide)) dM_countAll_32 (fun H locs hP _ hSS => ?_)
        have hP : va_P g.1 cl_X (mo_V g th ks kc rn oc hd hs se bd (nI 4) dk dp 1 0 (upd wwi3 ((nI (6 - (n + 1))) : Int32).toNatClampNeg 0) wsh3 lf lc mo ah) H := hP
        refine lv_aload_n hx hb dM_countAll_33 rfl (lv_at hl 1 rfl) ?_
        refine va_get (D := g.1) (ci := 1) (v := .ref (g.2.2 9)) (C := "HandTablesModel") (T := T_M) (N := 20) hx hb hts (fun w hw => wd_in (u_inM w hw)) hown hK hP 0 rfl rfl 15 (by decide) (hts _ (wd_in (gw_mem 472 rfl rfl))) (fun _ h => h) rfl dM_countAll_34 ?_
        refine lv_iload_n hx hb dM_countAll_37 rfl (lv_at hl 0 rfl) ?_
        refine lv_iconst (v := 0) hx hb dM_countAll_38 (by decide) ?_
        refine va_iast (x := 0) hx hb hK hP (mo_D hap) hSS 9 0 rfl rfl (vp_in_nI (by omega) (by decide)) dM_countAll_39 (fun H locs hP _ hSS => ?_)
        have hP : va_P g.1 cl_X (mo_V g th ks kc rn oc hd hs se bd (nI 4) dk dp 1 0 (upd wwi3 ((nI (6 - (n + 1))) : Int32).toNatClampNeg 0) (upd wsh3 ((nI (6 - (n + 1))) : Int32).toNatClampNeg 0) lf lc mo ah) H := hP
        refine jv_iinc (a := 1) hx hb dM_countAll_40 hl (k := 0) rfl (by decide) (by decide) (fun x6 ex6 ls hl => ?_)
        have hl : lv_has ls 3 [(1, .int x6), (0, .ref (g.2.2 0))] := hl
        refine lv_goto (tgt := 20) hx hb dM_countAll_43 (by decide) ?_
        rw [nI_up (by omega)] at ex6
        have hlB := lv_sub hl [0, 1] rfl
        have hPB := hP
        have hSB := hSS
        subst ex6
        simp only [kz6] at K
        exact ih   _ _ _ _ _ hlB hPB hSB (by omega) K
  refine hloop 6   wi sh _ _ ls (by have h9 := lv_sub hl [0, 1] rfl; subst ex2; exact h9) hP hSS (by decide) (fun  H locs ls hl hP hSS  => ?_)
  clear hloop
  refine lv_aload_n hx hb dM_countAll_46 rfl (lv_at hl 0 rfl) ?_
  refine mm_V (cM_findLeft l g th ks kc rn oc hd hs se bd 4 dk dp 1 0 (kz6 6 wi) (kz6 6 sh) lf lc mo ah hap (by decide)) rfl kM_M_findLeft hS hK hP ⟨Nat.le_of_ble_eq_true rfl, Nat.le_of_ble_eq_true rfl⟩ hl.1 rfl (Nat.le_of_ble_eq_true rfl) ⟨Nat.zero_le _, Nat.zero_le _⟩ dM_countAll_47 hSS (fun v9 S9 H locs hR hP hSS => ?_)
  obtain ⟨rfl, rfl⟩ := hR
  have hP : va_P g.1 cl_X (mo_V g th ks kc rn oc hd hs se bd (nI 4) dk dp 1 0 (kz6 6 wi) (kz6 6 sh) ((k_left se bd 4 lf).2) ((k_left se bd 4 lf).1) mo ah) H := hP
  obtain ⟨L, hL, hL1, hL2⟩ := k_left_ok se bd 4 lf
  rw [hL1] at hP
  obtain ⟨lf2, elf⟩ : ∃ z, (k_left se bd 4 lf).2 = z := ⟨_, rfl⟩
  rw [elf] at hL2 hP
  have hP : va_P g.1 cl_X (mo_V g th ks kc rn oc hd hs se bd (nI 4) dk dp 1 0 (kz6 6 wi) (kz6 6 sh) lf2 (nI L) mo ah) H := hP
  refine lv_aload_n hx hb dM_countAll_50 rfl (lv_at hl 0 rfl) ?_
  refine va_get (D := g.1) (ci := 1) (v := .int (nI 4)) (C := "HandTablesModel") (T := T_M) (N := 20) hx hb hts (fun w hw => wd_in (u_inM w hw)) hown hK hP 0 rfl rfl 9 (by decide) (hts _ (wd_in (gw_mem 466 rfl rfl))) (fun _ h => h) rfl dM_countAll_51 ?_
  refine lv_iconst (v := 5) hx hb dM_countAll_54 (by decide) ?_
  refine lv_icmp_ne (tgt := 64) hx hb dM_countAll_55 (by decide) (fun hc7 => ?_) (fun hc7 => ?_)
  rotate_left
  · first | exact absurd hc7 (by decide) | exact absurd (by decide) hc7
  refine lv_iconst (v := 0) hx hb dM_countAll_64 (by decide) ?_
  refine jt_topi (fun x8 ex8 => ?_)
  refine lv_istore_n (lv' := [(1, .int x8), (0, .ref (g.2.2 0))]) hx hb dM_countAll_65 rfl hl (by decide) rfl (fun ls hl => ?_)
  have hloop : ∀ (n : Nat)   (wrn9 : Nat → Int32) (woc9 : Nat → Int32) (whd9 : Nat → Int32) (whs9 : Int32) (wmo9 : Int32) (wah9 : Int32) (wbo9 : Int32) (wwi9 : Nat → Int32) (wsh9 : Nat → Int32) (H : Heap) (locs : List Loc) (ls : Array Slot), lv_has ls 3 [(1, .int (nI (L - n))), (0, .ref (g.2.2 0))] → va_P g.1 cl_X (mo_V g th ks kc wrn9 woc9 whd9 whs9 se bd (nI 4) dk dp 1 wbo9 wwi9 wsh9 lf2 (nI L) wmo9 wah9) H → va_S (mo_fr g) s.heap H locs → (n ≤ L) → (∀ (rn' : Nat → Int32) (oc' : Nat → Int32) (hd' : Nat → Int32) (hs' : Int32) (mo' : Int32) (ah' : Int32) (bo' : Int32) (H : Heap) (locs : List Loc) (ls : Array Slot), lv_has ls 3 [(0, .ref (g.2.2 0))] → va_P g.1 cl_X (mo_V g th ks kc rn' oc' hd' hs' se bd (nI 4) dk dp 1 bo' ((kN4 se bd lf2 L n wwi9 wsh9).1) ((kN4 se bd lf2 L n wwi9 wsh9).2) lf2 (nI L) mo' ah') H → va_S (mo_fr g) s.heap H locs → W p l e (headSpec (wd yM_countAll bM_countAll 3 none) (rmD 7 0 0)).room s m ([.ref (g.2.2 0)]).toArray below meth c H locs 0 0 (MQ below (mm_Q g (fun v9 S9 => v9 = none ∧ ∃ (rn' : Nat → Int32) (oc' : Nat → Int32) (hd' : Nat → Int32) (hs' : Int32) (mo' : Int32) (ah' : Int32) (bo' : Int32) (lf' : Nat → Int32) (lc' : Int32), S9 = (th, ks, kc, rn', oc', hd', hs', se, bd, (nI 4), dk, dp, 1, bo', (k_all se bd 4 lf wi sh).1, (k_all se bd 4 lf wi sh).2, lf', lc', mo', ah'))) ([.ref (g.2.2 0)]).toArray s 0 0 (mo_fr g)) (F0 m 149 ls [])) → W p l e (headSpec (wd yM_countAll bM_countAll 3 none) (rmD 7 0 0)).room s m ([.ref (g.2.2 0)]).toArray below meth c H locs 0 0 (MQ below (mm_Q g (fun v9 S9 => v9 = none ∧ ∃ (rn' : Nat → Int32) (oc' : Nat → Int32) (hd' : Nat → Int32) (hs' : Int32) (mo' : Int32) (ah' : Int32) (bo' : Int32) (lf' : Nat → Int32) (lc' : Int32), S9 = (th, ks, kc, rn', oc', hd', hs', se, bd, (nI 4), dk, dp, 1, bo', (k_all se bd 4 lf wi sh).1, (k_all se bd 4 lf wi sh).2, lf', lc', mo', ah'))) ([.ref (g.2.2 0)]).toArray s 0 0 (mo_fr g)) (F0 m 66 ls []) := by
    intro n
    induction n with
    | zero =>
      intro   wrn9 woc9 whd9 whs9 wmo9 wah9 wbo9 wwi9 wsh9 H locs ls hl hP hSS hn K
      refine lv_iload_n hx hb dM_countAll_66 rfl (lv_at hl 0 rfl) ?_
      refine lv_aload_n hx hb dM_countAll_67 rfl (lv_at hl 1 rfl) ?_
      refine va_get (D := g.1) (ci := 1) (v := .int (nI L)) (C := "HandTablesModel") (T := T_M) (N := 20) hx hb hts (fun w hw => wd_in (u_inM w hw)) hown hK hP 0 rfl rfl 17 (by decide) (hts _ (wd_in (gw_mem 474 rfl rfl))) (fun _ h => h) rfl dM_countAll_68 ?_
      refine lv_icmp_ge (tgt := 149) hx hb dM_countAll_71 (by decide) (fun hc10 => ?_) (fun hc10 => ?_)
      · have hlB := lv_sub hl [1] rfl
        have hPB := hP
        have hSB := hSS
        simp only [kN4] at K
        exact K _ _ _ _ _ _ _ _ _ _ hlB hPB hSB 
      · exact absurd (show nI L ≤ nI (L - 0) from Int32.le_refl _) hc10
    | succ n ih =>
      intro   wrn9 woc9 whd9 whs9 wmo9 wah9 wbo9 wwi9 wsh9 H locs ls hl hP hSS hn K
      refine lv_iload_n hx hb dM_countAll_66 rfl (lv_at hl 0 rfl) ?_
      refine lv_aload_n hx hb dM_countAll_67 rfl (lv_at hl 1 rfl) ?_
      refine va_get (D := g.1) (ci := 1) (v := .int (nI L)) (C := "HandTablesModel") (T := T_M) (N := 20) hx hb hts (fun w hw => wd_in (u_inM w hw)) hown hK hP 0 rfl rfl 17 (by decide) (hts _ (wd_in (gw_mem 474 rfl rfl))) (fun _ h => h) rfl dM_countAll_68 ?_
      refine lv_icmp_ge (tgt := 149) hx hb dM_countAll_71 (by decide) (fun hc11 => ?_) (fun hc11 => ?_)
      · exact absurd hc11 (nI_ge (by omega) (by omega))
      · refine lv_aload_n hx hb dM_countAll_74 rfl (lv_at hl 1 rfl) ?_
        refine va_get (D := g.1) (ci := 1) (v := .int (nI 4)) (C := "HandTablesModel") (T := T_M) (N := 20) hx hb hts (fun w hw => wd_in (u_inM w hw)) hown hK hP 0 rfl rfl 9 (by decide) (hts _ (wd_in (gw_mem 466 rfl rfl))) (fun _ h => h) rfl dM_countAll_75 ?_
        refine lv_iconst (v := 5) hx hb dM_countAll_78 (by decide) ?_
        refine lv_icmp_ge (tgt := 149) hx hb dM_countAll_79 (by decide) (fun hc12 => ?_) (fun hc12 => ?_)
        · first | exact absurd hc12 (by decide) | exact absurd (by decide) hc12
        refine lv_aload_n hx hb dM_countAll_82 rfl (lv_at hl 1 rfl) ?_
        refine va_get (D := g.1) (ci := 1) (v := .int (nI 4)) (C := "HandTablesModel") (T := T_M) (N := 20) hx hb hts (fun w hw => wd_in (u_inM w hw)) hown hK hP 0 rfl rfl 9 (by decide) (hts _ (wd_in (gw_mem 466 rfl rfl))) (fun _ h => h) rfl dM_countAll_83 ?_
        refine lv_iconst (v := 4) hx hb dM_countAll_86 (by decide) ?_
        refine lv_icmp_ne (tgt := 101) hx hb dM_countAll_87 (by decide) (fun hc13 => ?_) (fun hc13 => ?_)
        · first | exact absurd hc13 (by decide) | exact absurd (by decide) hc13
        refine lv_aload_n hx hb dM_countAll_90 rfl (lv_at hl 1 rfl) ?_
        refine lv_aload_n hx hb dM_countAll_91 rfl (lv_at hl 1 rfl) ?_
        refine va_get (D := g.1) (ci := 1) (v := .ref (g.2.2 10)) (C := "HandTablesModel") (T := T_M) (N := 20) hx hb hts (fun w hw => wd_in (u_inM w hw)) hown hK hP 0 rfl rfl 16 (by decide) (hts _ (wd_in (gw_mem 473 rfl rfl))) (fun _ h => h) rfl dM_countAll_92 ?_
        refine lv_iload_n hx hb dM_countAll_95 rfl (lv_at hl 0 rfl) ?_
        refine va_iald hx hb hK hP 10 0 rfl rfl (vp_in_nI (by omega) (by decide)) dM_countAll_96 ?_
        refine lv_iconst (v := (-1)) hx hb dM_countAll_97 (by decide) ?_
        refine mm_V (cM_countBoard l g th ks kc wrn9 woc9 whd9 whs9 se bd 4 dk dp 1 wbo9 wwi9 wsh9 lf2 (nI L) wmo9 wah9 (lf2 ((nI (L - (n + 1))) : Int32).toNatClampNeg) (-1) hap (by decide) hbd hse (Or.inr (by rw [nI_clamp (by omega)]; exact hL2 _ (by omega))) (Or.inl (by decide)) (kq_n1 (by decide))) rfl kM_M_countBoard hS hK hP ⟨Nat.le_of_ble_eq_true rfl, Nat.le_of_ble_eq_true rfl⟩ hl.1 rfl (Nat.le_of_ble_eq_true rfl) ⟨Nat.zero_le _, Nat.zero_le _⟩ dM_countAll_98 hSS (fun v9 S9 H locs hR hP hSS => ?_)
        obtain ⟨rfl, rn14, oc15, hd16, hs17, mo18, ah19, bo20, rfl⟩ := hR
        have hP : va_P g.1 cl_X (mo_V g th ks kc rn14 oc15 hd16 hs17 se bd (nI 4) dk dp 1 bo20 ((k_cnt (k_lead se bd 4 (lf2 ((nI (L - (n + 1))) : Int32).toNatClampNeg) (-1)) wwi9 wsh9).1) ((k_cnt (k_lead se bd 4 (lf2 ((nI (L - (n + 1))) : Int32).toNatClampNeg) (-1)) wwi9 wsh9).2) lf2 (nI L) mo18 ah19) H := hP
        refine lv_iload_n hx hb dM_countAll_101 rfl (lv_at hl 0 rfl) ?_
        refine lv_iconst (v := 1) hx hb dM_countAll_102 (by decide) ?_
        refine lv_iadd hx hb dM_countAll_103 ?_
        refine jt_topi (fun x21 ex21 => ?_)
        refine lv_istore_n (lv' := [(2, .int x21), (1, .int (nI (L - (n + 1)))), (0, .ref (g.2.2 0))]) hx hb dM_countAll_104 rfl hl (by decide) rfl (fun ls hl => ?_)
        refine lv_iload_n hx hb dM_countAll_105 rfl (lv_at hl 0 rfl) ?_
        refine lv_aload_n hx hb dM_countAll_106 rfl (lv_at hl 2 rfl) ?_
        refine va_get (D := g.1) (ci := 1) (v := .int (nI L)) (C := "HandTablesModel") (T := T_M) (N := 20) hx hb hts (fun w hw => wd_in (u_inM w hw)) hown hK hP 0 rfl rfl 17 (by decide) (hts _ (wd_in (gw_mem 474 rfl rfl))) (fun _ h => h) rfl dM_countAll_107 ?_
        refine lv_icmp_ge (tgt := 143) hx hb dM_countAll_110 (by decide) (fun hc22 => ?_) (fun hc22 => ?_)
        · refine jv_iinc (a := 1) hx hb dM_countAll_143 hl (k := 1) rfl (by decide) (by decide) (fun x23 ex23 ls hl => ?_)
          have hl : lv_has ls 3 [(1, .int x23), (2, .int x21), (0, .ref (g.2.2 0))] := hl
          refine lv_goto (tgt := 66) hx hb dM_countAll_146 (by decide) ?_
          rw [nI_up (by omega)] at ex23
          have hlB := lv_sub hl [0, 2] rfl
          have hPB := hP
          have hSB := hSS
          subst ex23 ex21
          simp only [kN4, if_pos hc22] at K
          exact ih   _ _ _ _ _ _ _ _ _ _ _ _ hlB hPB hSB (by omega) K
        · refine lv_aload_n hx hb dM_countAll_113 rfl (lv_at hl 2 rfl) ?_
          refine va_get (D := g.1) (ci := 1) (v := .int (nI 4)) (C := "HandTablesModel") (T := T_M) (N := 20) hx hb hts (fun w hw => wd_in (u_inM w hw)) hown hK hP 0 rfl rfl 9 (by decide) (hts _ (wd_in (gw_mem 466 rfl rfl))) (fun _ h => h) rfl dM_countAll_114 ?_
          refine lv_iconst (v := 3) hx hb dM_countAll_117 (by decide) ?_
          refine lv_icmp_ne (tgt := 143) hx hb dM_countAll_118 (by decide) (fun hc24 => ?_) (fun hc24 => ?_)
          rotate_left
          · first | exact absurd hc24 (by decide) | exact absurd (by decide) hc24
          refine jv_iinc (a := 1) hx hb dM_countAll_143 hl (k := 1) rfl (by decide) (by decide) (fun x25 ex25 ls hl => ?_)
          have hl : lv_has ls 3 [(1, .int x25), (2, .int x21), (0, .ref (g.2.2 0))] := hl
          refine lv_goto (tgt := 66) hx hb dM_countAll_146 (by decide) ?_
          rw [nI_up (by omega)] at ex25
          have hlB := lv_sub hl [0, 2] rfl
          have hPB := hP
          have hSB := hSS
          subst ex25 ex21
          simp only [kN4, if_neg hc22] at K
          exact ih   _ _ _ _ _ _ _ _ _ _ _ _ hlB hPB hSB (by omega) K
  refine hloop L   rn oc hd hs mo ah 0 (kz6 6 wi) (kz6 6 sh) _ _ ls (by have h9 := lv_sub hl [0, 1] rfl; subst ex8; rw [Nat.sub_self]; exact h9) hP hSS (Nat.le_refl _) (fun rn26 oc27 hd28 hs29 mo30 ah31 bo32 H locs ls hl hP hSS  => ?_)
  clear hloop
  exact mm_vret (S := (th, ks, kc, rn26, oc27, hd28, hs29, se, bd, (nI 4), dk, dp, 1, bo32, (kN4 se bd lf2 L L (kz6 6 wi) (kz6 6 sh)).1, (kN4 se bd lf2 L L (kz6 6 wi) (kz6 6 sh)).2, lf2, (nI L), mo30, ah31)) hx hb hr hlk dM_countAll_149 hP hSS (by exact ⟨rfl, rn26, oc27, hd28, hs29, mo30, ah31, bo32, lf2, (nI L), by subst ex8 ex2; subst elf; simp only [k_all, hL1, nI_clamp (show L < 2 ^ 31 by omega)]; rfl⟩)
set_option maxHeartbeats 4000000 in
set_option maxRecDepth 100000 in
theorem cM_countAll_3 (l : Launch) (g : mo_E) (th : Int32) (ks : Nat → Int32) (kc : Int32) (rn : Nat → Int32) (oc : Nat → Int32) (hd : Nat → Int32) (hs : Int32) (se : Nat → Int32) (bd : Nat → Int32) (dk : Nat → Int32) (dp : Int32) (bo : Int32) (wi : Nat → Int32) (sh : Nat → Int32) (lf : Nat → Int32) (lc : Int32) (mo : Int32) (ah : Int32)   (hap : mo_ap g) (hbd : ∀ i, i < 3 → vp_in (bd i) 52) (hse : k_hse se) : mm_M l yM_countAll bM_countAll 3 none 7 [.ref (g.2.2 0)] g (th, ks, kc, rn, oc, hd, hs, se, bd, (nI 3), dk, dp, 0, bo, wi, sh, lf, lc, mo, ah) (fun v9 S9 => v9 = none ∧ ∃ (rn' : Nat → Int32) (oc' : Nat → Int32) (hd' : Nat → Int32) (hs' : Int32) (mo' : Int32) (ah' : Int32) (bo' : Int32) (lf' : Nat → Int32) (lc' : Int32), S9 = (th, ks, kc, rn', oc', hd', hs', se, bd, (nI 3), dk, dp, 1, bo', (k_all se bd 3 lf wi sh).1, (k_all se bd 3 lf wi sh).2, lf', lc', mo', ah')) := by
  refine Met.ofW (cc := bM_countAll) (maxL := 3) (ret := none) (by decide) rfl ?_
  intro p e s m args below meth c s₁ BB hml hv
  obtain ⟨rfl, hB⟩ := hv
  have hx := BB.exec
  have hb := BB.bytes
  have hr := BB.returns
  have hlk := BB.notSynchronized
  have hts := atoms_spec (ws := wd yM_countAll bM_countAll 3 none) BB.pre
  have hown : s.vm.findClass "HandTablesModel" = some m.cls := findClass_of_methodNamed BB.named
  have hS : CallFix p m c bM_countAll 3 s _ (wd yM_countAll bM_countAll 3 none) "HandTablesModel" := ⟨hx, hb, hml, hown, hts⟩
  obtain ⟨hP, hK⟩ := hB
  have hP : va_P g.1 cl_X (mo_V g th ks kc rn oc hd hs se bd (nI 3) dk dp 0 bo wi sh lf lc mo ah) s.heap := hP
  have hSS : va_S (mo_fr g) s.heap s.heap [] := va_S.rf
  have hl := lv_entry ([.ref (g.2.2 0)]) (n := 3) (Nat.le_of_ble_eq_true rfl)
  rw [lg_entry_eq]
  generalize (lg_sl ([.ref (g.2.2 0)]) ++ List.replicate (3 - (lg_sl ([.ref (g.2.2 0)])).length) Slot.unset).toArray = ls at hl ⊢
  have hl : lv_has ls 3 [(0, .ref (g.2.2 0))] := hl
  obtain ⟨H, eH⟩ : ∃ H, s.heap = H := ⟨_, rfl⟩
  obtain ⟨locs, eL⟩ : ∃ L, ([] : List Loc) = L := ⟨_, rfl⟩
  have hP : va_P g.1 cl_X (mo_V g th ks kc rn oc hd hs se bd (nI 3) dk dp 0 bo wi sh lf lc mo ah) H := by rw [← eH]; exact hP
  have hSS : va_S (mo_fr g) s.heap H locs := by rw [← eH, ← eL]; exact hSS
  refine mm_go eH eL ?_
  clear eH eL
  refine lv_aload_n hx hb dM_countAll_0 rfl (lv_at hl 0 rfl) ?_
  refine va_get (D := g.1) (ci := 1) (v := .int 0) (C := "HandTablesModel") (T := T_M) (N := 20) hx hb hts (fun w hw => wd_in (u_inM w hw)) hown hK hP 0 rfl rfl 12 (by decide) (hts _ (wd_in (gw_mem 469 rfl rfl))) (fun _ h => h) rfl dM_countAll_1 ?_
  refine lv_if_eq (tgt := 8) hx hb dM_countAll_4 (by decide) (fun hc1 => ?_) (fun hc1 => ?_)
  rotate_left
  · first | exact absurd hc1 (by decide) | exact absurd (by decide) hc1
  refine lv_aload_n hx hb dM_countAll_8 rfl (lv_at hl 0 rfl) ?_
  refine lv_iconst (v := 1) hx hb dM_countAll_9 (by decide) ?_
  refine va_put (D := g.1) (ci := 1) (v := .int 1) (ty := .boolean) (C := "HandTablesModel") (T := T_M) (N := 20) hx hb hts (fun w hw => wd_in (u_inM w hw)) tf_M tf_M_ok n_M hown hK hP (mo_D hap) hSS 0 rfl rfl 12 (by decide) (hts _ (wd_in (gw_mem 469 rfl rfl))) (fun _ h => h) rfl (by decide +kernel) rfl rfl (Nat.le_of_ble_eq_true rfl) dM_countAll_10 (fun H locs hP _ hSS => ?_)
  have hP : va_P g.1 cl_X (mo_V g th ks kc rn oc hd hs se bd (nI 3) dk dp 1 bo wi sh lf lc mo ah) H := hP
  refine lv_aload_n hx hb dM_countAll_13 rfl (lv_at hl 0 rfl) ?_
  refine lv_iconst (v := 0) hx hb dM_countAll_14 (by decide) ?_
  refine va_put (D := g.1) (ci := 1) (v := .int 0) (ty := .int) (C := "HandTablesModel") (T := T_M) (N := 20) hx hb hts (fun w hw => wd_in (u_inM w hw)) tf_M tf_M_ok n_M hown hK hP (mo_D hap) hSS 0 rfl rfl 13 (by decide) (hts _ (wd_in (gw_mem 470 rfl rfl))) (fun _ h => h) rfl (by decide +kernel) rfl rfl (Nat.le_of_ble_eq_true rfl) dM_countAll_15 (fun H locs hP _ hSS => ?_)
  have hP : va_P g.1 cl_X (mo_V g th ks kc rn oc hd hs se bd (nI 3) dk dp 1 0 wi sh lf lc mo ah) H := hP
  refine lv_iconst (v := 0) hx hb dM_countAll_18 (by decide) ?_
  refine jt_topi (fun x2 ex2 => ?_)
  refine lv_istore_n (lv' := [(1, .int x2), (0, .ref (g.2.2 0))]) hx hb dM_countAll_19 rfl hl (by decide) rfl (fun ls hl => ?_)
  have hloop : ∀ (n : Nat)   (wwi3 : Nat → Int32) (wsh3 : Nat → Int32) (H : Heap) (locs : List Loc) (ls : Array Slot), lv_has ls 3 [(1, .int (nI (6 - n))), (0, .ref (g.2.2 0))] → va_P g.1 cl_X (mo_V g th ks kc rn oc hd hs se bd (nI 3) dk dp 1 0 wwi3 wsh3 lf lc mo ah) H → va_S (mo_fr g) s.heap H locs → (n ≤ 6) → (∀  (H : Heap) (locs : List Loc) (ls : Array Slot), lv_has ls 3 [(0, .ref (g.2.2 0))] → va_P g.1 cl_X (mo_V g th ks kc rn oc hd hs se bd (nI 3) dk dp 1 0 (kz6 n wwi3) (kz6 n wsh3) lf lc mo ah) H → va_S (mo_fr g) s.heap H locs → W p l e (headSpec (wd yM_countAll bM_countAll 3 none) (rmD 7 0 0)).room s m ([.ref (g.2.2 0)]).toArray below meth c H locs 0 0 (MQ below (mm_Q g (fun v9 S9 => v9 = none ∧ ∃ (rn' : Nat → Int32) (oc' : Nat → Int32) (hd' : Nat → Int32) (hs' : Int32) (mo' : Int32) (ah' : Int32) (bo' : Int32) (lf' : Nat → Int32) (lc' : Int32), S9 = (th, ks, kc, rn', oc', hd', hs', se, bd, (nI 3), dk, dp, 1, bo', (k_all se bd 3 lf wi sh).1, (k_all se bd 3 lf wi sh).2, lf', lc', mo', ah'))) ([.ref (g.2.2 0)]).toArray s 0 0 (mo_fr g)) (F0 m 46 ls [])) → W p l e (headSpec (wd yM_countAll bM_countAll 3 none) (rmD 7 0 0)).room s m ([.ref (g.2.2 0)]).toArray below meth c H locs 0 0 (MQ below (mm_Q g (fun v9 S9 => v9 = none ∧ ∃ (rn' : Nat → Int32) (oc' : Nat → Int32) (hd' : Nat → Int32) (hs' : Int32) (mo' : Int32) (ah' : Int32) (bo' : Int32) (lf' : Nat → Int32) (lc' : Int32), S9 = (th, ks, kc, rn', oc', hd', hs', se, bd, (nI 3), dk, dp, 1, bo', (k_all se bd 3 lf wi sh).1, (k_all se bd 3 lf wi sh).2, lf', lc', mo', ah'))) ([.ref (g.2.2 0)]).toArray s 0 0 (mo_fr g)) (F0 m 20 ls []) := by
    intro n
    induction n with
    | zero =>
      intro   wwi3 wsh3 H locs ls hl hP hSS hn K
      refine lv_iload_n hx hb dM_countAll_20 rfl (lv_at hl 0 rfl) ?_
      refine lv_bipush (v := 6) hx hb dM_countAll_21 (by decide) ?_
      refine lv_icmp_ge (tgt := 46) hx hb dM_countAll_23 (by decide) (fun hc4 => ?_) (fun hc4 => ?_)
      · have hlB := lv_sub hl [1] rfl
        have hPB := hP
        have hSB := hSS
        simp only [kz6] at K
        exact K  _ _ _ hlB hPB hSB 
      · exact absurd (by decide) hc4
    | succ n ih =>
      intro   wwi3 wsh3 H locs ls hl hP hSS hn K
      refine lv_iload_n hx hb dM_countAll_20 rfl (lv_at hl 0 rfl) ?_
      refine lv_bipush (v := 6) hx hb dM_countAll_21 (by decide) ?_
      refine lv_icmp_ge (tgt := 46) hx hb dM_countAll_23 (by decide) (fun hc5 => ?_) (fun hc5 => ?_)
      · exact absurd hc5 (nI_ge (b := 6) (by omega) (by decide))
      · refine lv_aload_n hx hb dM_countAll_26 rfl (lv_at hl 1 rfl) ?_
        refine va_get (D := g.1) (ci := 1) (v := .ref (g.2.2 8)) (C := "HandTablesModel") (T := T_M) (N := 20) hx hb hts (fun w hw => wd_in (u_inM w hw)) hown hK hP 0 rfl rfl 14 (by decide) (hts _ (wd_in (gw_mem 471 rfl rfl))) (fun _ h => h) rfl dM_countAll_27 ?_
        refine lv_iload_n hx hb dM_countAll_30 rfl (lv_at hl 0 rfl) ?_
        refine lv_iconst (v := 0) hx hb dM_countAll_31 (by decide) ?_
        refine va_iast (x := 0) hx hb hK hP (mo_D hap) hSS 8 0 rfl rfl (vp_in_nI (by omega) (by decide)) dM_countAll_32 (fun H locs hP _ hSS => ?_)
        have hP : va_P g.1 cl_X (mo_V g th ks kc rn oc hd hs se bd (nI 3) dk dp 1 0 (upd wwi3 ((nI (6 - (n + 1))) : Int32).toNatClampNeg 0) wsh3 lf lc mo ah) H := hP
        refine lv_aload_n hx hb dM_countAll_33 rfl (lv_at hl 1 rfl) ?_
        refine va_get (D := g.1) (ci := 1) (v := .ref (g.2.2 9)) (C := "HandTablesModel") (T := T_M) (N := 20) hx hb hts (fun w hw => wd_in (u_inM w hw)) hown hK hP 0 rfl rfl 15 (by decide) (hts _ (wd_in (gw_mem 472 rfl rfl))) (fun _ h => h) rfl dM_countAll_34 ?_
        refine lv_iload_n hx hb dM_countAll_37 rfl (lv_at hl 0 rfl) ?_
        refine lv_iconst (v := 0) hx hb dM_countAll_38 (by decide) ?_
        refine va_iast (x := 0) hx hb hK hP (mo_D hap) hSS 9 0 rfl rfl (vp_in_nI (by omega) (by decide)) dM_countAll_39 (fun H locs hP _ hSS => ?_)
        have hP : va_P g.1 cl_X (mo_V g th ks kc rn oc hd hs se bd (nI 3) dk dp 1 0 (upd wwi3 ((nI (6 - (n + 1))) : Int32).toNatClampNeg 0) (upd wsh3 ((nI (6 - (n + 1))) : Int32).toNatClampNeg 0) lf lc mo ah) H := hP
        refine jv_iinc (a := 1) hx hb dM_countAll_40 hl (k := 0) rfl (by decide) (by decide) (fun x6 ex6 ls hl => ?_)
        have hl : lv_has ls 3 [(1, .int x6), (0, .ref (g.2.2 0))] := hl
        refine lv_goto (tgt := 20) hx hb dM_countAll_43 (by decide) ?_
        rw [nI_up (by omega)] at ex6
        have hlB := lv_sub hl [0, 1] rfl
        have hPB := hP
        have hSB := hSS
        subst ex6
        simp only [kz6] at K
        exact ih   _ _ _ _ _ hlB hPB hSB (by omega) K
  refine hloop 6   wi sh _ _ ls (by have h9 := lv_sub hl [0, 1] rfl; subst ex2; exact h9) hP hSS (by decide) (fun  H locs ls hl hP hSS  => ?_)
  clear hloop
  refine lv_aload_n hx hb dM_countAll_46 rfl (lv_at hl 0 rfl) ?_
  refine mm_V (cM_findLeft l g th ks kc rn oc hd hs se bd 3 dk dp 1 0 (kz6 6 wi) (kz6 6 sh) lf lc mo ah hap (by decide)) rfl kM_M_findLeft hS hK hP ⟨Nat.le_of_ble_eq_true rfl, Nat.le_of_ble_eq_true rfl⟩ hl.1 rfl (Nat.le_of_ble_eq_true rfl) ⟨Nat.zero_le _, Nat.zero_le _⟩ dM_countAll_47 hSS (fun v9 S9 H locs hR hP hSS => ?_)
  obtain ⟨rfl, rfl⟩ := hR
  have hP : va_P g.1 cl_X (mo_V g th ks kc rn oc hd hs se bd (nI 3) dk dp 1 0 (kz6 6 wi) (kz6 6 sh) ((k_left se bd 3 lf).2) ((k_left se bd 3 lf).1) mo ah) H := hP
  obtain ⟨L, hL, hL1, hL2⟩ := k_left_ok se bd 3 lf
  rw [hL1] at hP
  obtain ⟨lf2, elf⟩ : ∃ z, (k_left se bd 3 lf).2 = z := ⟨_, rfl⟩
  rw [elf] at hL2 hP
  have hP : va_P g.1 cl_X (mo_V g th ks kc rn oc hd hs se bd (nI 3) dk dp 1 0 (kz6 6 wi) (kz6 6 sh) lf2 (nI L) mo ah) H := hP
  refine lv_aload_n hx hb dM_countAll_50 rfl (lv_at hl 0 rfl) ?_
  refine va_get (D := g.1) (ci := 1) (v := .int (nI 3)) (C := "HandTablesModel") (T := T_M) (N := 20) hx hb hts (fun w hw => wd_in (u_inM w hw)) hown hK hP 0 rfl rfl 9 (by decide) (hts _ (wd_in (gw_mem 466 rfl rfl))) (fun _ h => h) rfl dM_countAll_51 ?_
  refine lv_iconst (v := 5) hx hb dM_countAll_54 (by decide) ?_
  refine lv_icmp_ne (tgt := 64) hx hb dM_countAll_55 (by decide) (fun hc7 => ?_) (fun hc7 => ?_)
  rotate_left
  · first | exact absurd hc7 (by decide) | exact absurd (by decide) hc7
  refine lv_iconst (v := 0) hx hb dM_countAll_64 (by decide) ?_
  refine jt_topi (fun x8 ex8 => ?_)
  refine lv_istore_n (lv' := [(1, .int x8), (0, .ref (g.2.2 0))]) hx hb dM_countAll_65 rfl hl (by decide) rfl (fun ls hl => ?_)
  have hloop : ∀ (n : Nat)   (wrn9 : Nat → Int32) (woc9 : Nat → Int32) (whd9 : Nat → Int32) (whs9 : Int32) (wmo9 : Int32) (wah9 : Int32) (wbo9 : Int32) (wwi9 : Nat → Int32) (wsh9 : Nat → Int32) (H : Heap) (locs : List Loc) (ls : Array Slot), lv_has ls 3 [(1, .int (nI (L - n))), (0, .ref (g.2.2 0))] → va_P g.1 cl_X (mo_V g th ks kc wrn9 woc9 whd9 whs9 se bd (nI 3) dk dp 1 wbo9 wwi9 wsh9 lf2 (nI L) wmo9 wah9) H → va_S (mo_fr g) s.heap H locs → (n ≤ L) → (∀ (rn' : Nat → Int32) (oc' : Nat → Int32) (hd' : Nat → Int32) (hs' : Int32) (mo' : Int32) (ah' : Int32) (bo' : Int32) (H : Heap) (locs : List Loc) (ls : Array Slot), lv_has ls 3 [(0, .ref (g.2.2 0))] → va_P g.1 cl_X (mo_V g th ks kc rn' oc' hd' hs' se bd (nI 3) dk dp 1 bo' ((kN3o se bd lf2 L n wwi9 wsh9).1) ((kN3o se bd lf2 L n wwi9 wsh9).2) lf2 (nI L) mo' ah') H → va_S (mo_fr g) s.heap H locs → W p l e (headSpec (wd yM_countAll bM_countAll 3 none) (rmD 7 0 0)).room s m ([.ref (g.2.2 0)]).toArray below meth c H locs 0 0 (MQ below (mm_Q g (fun v9 S9 => v9 = none ∧ ∃ (rn' : Nat → Int32) (oc' : Nat → Int32) (hd' : Nat → Int32) (hs' : Int32) (mo' : Int32) (ah' : Int32) (bo' : Int32) (lf' : Nat → Int32) (lc' : Int32), S9 = (th, ks, kc, rn', oc', hd', hs', se, bd, (nI 3), dk, dp, 1, bo', (k_all se bd 3 lf wi sh).1, (k_all se bd 3 lf wi sh).2, lf', lc', mo', ah'))) ([.ref (g.2.2 0)]).toArray s 0 0 (mo_fr g)) (F0 m 149 ls [])) → W p l e (headSpec (wd yM_countAll bM_countAll 3 none) (rmD 7 0 0)).room s m ([.ref (g.2.2 0)]).toArray below meth c H locs 0 0 (MQ below (mm_Q g (fun v9 S9 => v9 = none ∧ ∃ (rn' : Nat → Int32) (oc' : Nat → Int32) (hd' : Nat → Int32) (hs' : Int32) (mo' : Int32) (ah' : Int32) (bo' : Int32) (lf' : Nat → Int32) (lc' : Int32), S9 = (th, ks, kc, rn', oc', hd', hs', se, bd, (nI 3), dk, dp, 1, bo', (k_all se bd 3 lf wi sh).1, (k_all se bd 3 lf wi sh).2, lf', lc', mo', ah'))) ([.ref (g.2.2 0)]).toArray s 0 0 (mo_fr g)) (F0 m 66 ls []) := by
    intro n
    induction n with
    | zero =>
      intro   wrn9 woc9 whd9 whs9 wmo9 wah9 wbo9 wwi9 wsh9 H locs ls hl hP hSS hn K
      refine lv_iload_n hx hb dM_countAll_66 rfl (lv_at hl 0 rfl) ?_
      refine lv_aload_n hx hb dM_countAll_67 rfl (lv_at hl 1 rfl) ?_
      refine va_get (D := g.1) (ci := 1) (v := .int (nI L)) (C := "HandTablesModel") (T := T_M) (N := 20) hx hb hts (fun w hw => wd_in (u_inM w hw)) hown hK hP 0 rfl rfl 17 (by decide) (hts _ (wd_in (gw_mem 474 rfl rfl))) (fun _ h => h) rfl dM_countAll_68 ?_
      refine lv_icmp_ge (tgt := 149) hx hb dM_countAll_71 (by decide) (fun hc10 => ?_) (fun hc10 => ?_)
      · have hlB := lv_sub hl [1] rfl
        have hPB := hP
        have hSB := hSS
        simp only [kN3o] at K
        exact K _ _ _ _ _ _ _ _ _ _ hlB hPB hSB 
      · exact absurd (show nI L ≤ nI (L - 0) from Int32.le_refl _) hc10
    | succ n ih =>
      intro   wrn9 woc9 whd9 whs9 wmo9 wah9 wbo9 wwi9 wsh9 H locs ls hl hP hSS hn K
      refine lv_iload_n hx hb dM_countAll_66 rfl (lv_at hl 0 rfl) ?_
      refine lv_aload_n hx hb dM_countAll_67 rfl (lv_at hl 1 rfl) ?_
      refine va_get (D := g.1) (ci := 1) (v := .int (nI L)) (C := "HandTablesModel") (T := T_M) (N := 20) hx hb hts (fun w hw => wd_in (u_inM w hw)) hown hK hP 0 rfl rfl 17 (by decide) (hts _ (wd_in (gw_mem 474 rfl rfl))) (fun _ h => h) rfl dM_countAll_68 ?_
      refine lv_icmp_ge (tgt := 149) hx hb dM_countAll_71 (by decide) (fun hc11 => ?_) (fun hc11 => ?_)
      · exact absurd hc11 (nI_ge (by omega) (by omega))
      · refine lv_aload_n hx hb dM_countAll_74 rfl (lv_at hl 1 rfl) ?_
        refine va_get (D := g.1) (ci := 1) (v := .int (nI 3)) (C := "HandTablesModel") (T := T_M) (N := 20) hx hb hts (fun w hw => wd_in (u_inM w hw)) hown hK hP 0 rfl rfl 9 (by decide) (hts _ (wd_in (gw_mem 466 rfl rfl))) (fun _ h => h) rfl dM_countAll_75 ?_
        refine lv_iconst (v := 5) hx hb dM_countAll_78 (by decide) ?_
        refine lv_icmp_ge (tgt := 149) hx hb dM_countAll_79 (by decide) (fun hc12 => ?_) (fun hc12 => ?_)
        · first | exact absurd hc12 (by decide) | exact absurd (by decide) hc12
        refine lv_aload_n hx hb dM_countAll_82 rfl (lv_at hl 1 rfl) ?_
        refine va_get (D := g.1) (ci := 1) (v := .int (nI 3)) (C := "HandTablesModel") (T := T_M) (N := 20) hx hb hts (fun w hw => wd_in (u_inM w hw)) hown hK hP 0 rfl rfl 9 (by decide) (hts _ (wd_in (gw_mem 466 rfl rfl))) (fun _ h => h) rfl dM_countAll_83 ?_
        refine lv_iconst (v := 4) hx hb dM_countAll_86 (by decide) ?_
        refine lv_icmp_ne (tgt := 101) hx hb dM_countAll_87 (by decide) (fun hc13 => ?_) (fun hc13 => ?_)
        rotate_left
        · first | exact absurd hc13 (by decide) | exact absurd (by decide) hc13
        refine lv_iload_n hx hb dM_countAll_101 rfl (lv_at hl 0 rfl) ?_
        refine lv_iconst (v := 1) hx hb dM_countAll_102 (by decide) ?_
        refine lv_iadd hx hb dM_countAll_103 ?_
        refine jt_topi (fun x14 ex14 => ?_)
        refine lv_istore_n (lv' := [(2, .int x14), (1, .int (nI (L - (n + 1)))), (0, .ref (g.2.2 0))]) hx hb dM_countAll_104 rfl hl (by decide) rfl (fun ls hl => ?_)
        have hloop : ∀ (j : Nat)   (wrn15 : Nat → Int32) (woc15 : Nat → Int32) (whd15 : Nat → Int32) (whs15 : Int32) (wmo15 : Int32) (wah15 : Int32) (wbo15 : Int32) (wwi15 : Nat → Int32) (wsh15 : Nat → Int32) (H : Heap) (locs : List Loc) (ls : Array Slot), lv_has ls 3 [(2, .int (nI (L - j))), (1, .int (nI (L - (n + 1)))), (0, .ref (g.2.2 0))] → va_P g.1 cl_X (mo_V g th ks kc wrn15 woc15 whd15 whs15 se bd (nI 3) dk dp 1 wbo15 wwi15 wsh15 lf2 (nI L) wmo15 wah15) H → va_S (mo_fr g) s.heap H locs → (j ≤ L) → (∀ (rn' : Nat → Int32) (oc' : Nat → Int32) (hd' : Nat → Int32) (hs' : Int32) (mo' : Int32) (ah' : Int32) (bo' : Int32) (H : Heap) (locs : List Loc) (ls : Array Slot), lv_has ls 3 [(1, .int (nI (L - (n + 1)))), (0, .ref (g.2.2 0))] → va_P g.1 cl_X (mo_V g th ks kc rn' oc' hd' hs' se bd (nI 3) dk dp 1 bo' ((kN3i se bd lf2 L (lf2 (nI (L - (n + 1))).toNatClampNeg) j wwi15 wsh15).1) ((kN3i se bd lf2 L (lf2 (nI (L - (n + 1))).toNatClampNeg) j wwi15 wsh15).2) lf2 (nI L) mo' ah') H → va_S (mo_fr g) s.heap H locs → W p l e (headSpec (wd yM_countAll bM_countAll 3 none) (rmD 7 0 0)).room s m ([.ref (g.2.2 0)]).toArray below meth c H locs 0 0 (MQ below (mm_Q g (fun v9 S9 => v9 = none ∧ ∃ (rn' : Nat → Int32) (oc' : Nat → Int32) (hd' : Nat → Int32) (hs' : Int32) (mo' : Int32) (ah' : Int32) (bo' : Int32) (lf' : Nat → Int32) (lc' : Int32), S9 = (th, ks, kc, rn', oc', hd', hs', se, bd, (nI 3), dk, dp, 1, bo', (k_all se bd 3 lf wi sh).1, (k_all se bd 3 lf wi sh).2, lf', lc', mo', ah'))) ([.ref (g.2.2 0)]).toArray s 0 0 (mo_fr g)) (F0 m 143 ls [])) → W p l e (headSpec (wd yM_countAll bM_countAll 3 none) (rmD 7 0 0)).room s m ([.ref (g.2.2 0)]).toArray below meth c H locs 0 0 (MQ below (mm_Q g (fun v9 S9 => v9 = none ∧ ∃ (rn' : Nat → Int32) (oc' : Nat → Int32) (hd' : Nat → Int32) (hs' : Int32) (mo' : Int32) (ah' : Int32) (bo' : Int32) (lf' : Nat → Int32) (lc' : Int32), S9 = (th, ks, kc, rn', oc', hd', hs', se, bd, (nI 3), dk, dp, 1, bo', (k_all se bd 3 lf wi sh).1, (k_all se bd 3 lf wi sh).2, lf', lc', mo', ah'))) ([.ref (g.2.2 0)]).toArray s 0 0 (mo_fr g)) (F0 m 105 ls []) := by
          intro j
          induction j with
          | zero =>
            intro   wrn15 woc15 whd15 whs15 wmo15 wah15 wbo15 wwi15 wsh15 H locs ls hl hP hSS hj K
            refine lv_iload_n hx hb dM_countAll_105 rfl (lv_at hl 0 rfl) ?_
            refine lv_aload_n hx hb dM_countAll_106 rfl (lv_at hl 2 rfl) ?_
            refine va_get (D := g.1) (ci := 1) (v := .int (nI L)) (C := "HandTablesModel") (T := T_M) (N := 20) hx hb hts (fun w hw => wd_in (u_inM w hw)) hown hK hP 0 rfl rfl 17 (by decide) (hts _ (wd_in (gw_mem 474 rfl rfl))) (fun _ h => h) rfl dM_countAll_107 ?_
            refine lv_icmp_ge (tgt := 143) hx hb dM_countAll_110 (by decide) (fun hc16 => ?_) (fun hc16 => ?_)
            · have hlB := lv_sub hl [1, 2] rfl
              have hPB := hP
              have hSB := hSS
              simp only [kN3i] at K
              exact K _ _ _ _ _ _ _ _ _ _ hlB hPB hSB 
            · exact absurd (show nI L ≤ nI (L - 0) from Int32.le_refl _) hc16
          | succ j ih =>
            intro   wrn15 woc15 whd15 whs15 wmo15 wah15 wbo15 wwi15 wsh15 H locs ls hl hP hSS hj K
            refine lv_iload_n hx hb dM_countAll_105 rfl (lv_at hl 0 rfl) ?_
            refine lv_aload_n hx hb dM_countAll_106 rfl (lv_at hl 2 rfl) ?_
            refine va_get (D := g.1) (ci := 1) (v := .int (nI L)) (C := "HandTablesModel") (T := T_M) (N := 20) hx hb hts (fun w hw => wd_in (u_inM w hw)) hown hK hP 0 rfl rfl 17 (by decide) (hts _ (wd_in (gw_mem 474 rfl rfl))) (fun _ h => h) rfl dM_countAll_107 ?_
            refine lv_icmp_ge (tgt := 143) hx hb dM_countAll_110 (by decide) (fun hc17 => ?_) (fun hc17 => ?_)
            · exact absurd hc17 (nI_ge (by omega) (by omega))
            · refine lv_aload_n hx hb dM_countAll_113 rfl (lv_at hl 2 rfl) ?_
              refine va_get (D := g.1) (ci := 1) (v := .int (nI 3)) (C := "HandTablesModel") (T := T_M) (N := 20) hx hb hts (fun w hw => wd_in (u_inM w hw)) hown hK hP 0 rfl rfl 9 (by decide) (hts _ (wd_in (gw_mem 466 rfl rfl))) (fun _ h => h) rfl dM_countAll_114 ?_
              refine lv_iconst (v := 3) hx hb dM_countAll_117 (by decide) ?_
              refine lv_icmp_ne (tgt := 143) hx hb dM_countAll_118 (by decide) (fun hc18 => ?_) (fun hc18 => ?_)
              · first | exact absurd hc18 (by decide) | exact absurd (by decide) hc18
              refine lv_aload_n hx hb dM_countAll_121 rfl (lv_at hl 2 rfl) ?_
              refine lv_aload_n hx hb dM_countAll_122 rfl (lv_at hl 2 rfl) ?_
              refine va_get (D := g.1) (ci := 1) (v := .ref (g.2.2 10)) (C := "HandTablesModel") (T := T_M) (N := 20) hx hb hts (fun w hw => wd_in (u_inM w hw)) hown hK hP 0 rfl rfl 16 (by decide) (hts _ (wd_in (gw_mem 473 rfl rfl))) (fun _ h => h) rfl dM_countAll_123 ?_
              refine lv_iload_n hx hb dM_countAll_126 rfl (lv_at hl 1 rfl) ?_
              refine va_iald hx hb hK hP 10 0 rfl rfl (vp_in_nI (by omega) (by decide)) dM_countAll_127 ?_
              refine lv_aload_n hx hb dM_countAll_128 rfl (lv_at hl 2 rfl) ?_
              refine va_get (D := g.1) (ci := 1) (v := .ref (g.2.2 10)) (C := "HandTablesModel") (T := T_M) (N := 20) hx hb hts (fun w hw => wd_in (u_inM w hw)) hown hK hP 0 rfl rfl 16 (by decide) (hts _ (wd_in (gw_mem 473 rfl rfl))) (fun _ h => h) rfl dM_countAll_129 ?_
              refine lv_iload_n hx hb dM_countAll_132 rfl (lv_at hl 0 rfl) ?_
              refine va_iald hx hb hK hP 10 0 rfl rfl (vp_in_nI (by omega) (by decide)) dM_countAll_133 ?_
              refine mm_V (cM_countBoard l g th ks kc wrn15 woc15 whd15 whs15 se bd 3 dk dp 1 wbo15 wwi15 wsh15 lf2 (nI L) wmo15 wah15 (lf2 ((nI (L - (n + 1))) : Int32).toNatClampNeg) (lf2 ((nI (L - (j + 1))) : Int32).toNatClampNeg) hap (by decide) hbd hse (Or.inr (by rw [nI_clamp (by omega)]; exact hL2 _ (by omega))) (Or.inr (by rw [nI_clamp (by omega)]; exact hL2 _ (by omega))) (kq_n2 (by decide))) rfl kM_M_countBoard hS hK hP ⟨Nat.le_of_ble_eq_true rfl, Nat.le_of_ble_eq_true rfl⟩ hl.1 rfl (Nat.le_of_ble_eq_true rfl) ⟨Nat.zero_le _, Nat.zero_le _⟩ dM_countAll_134 hSS (fun v9 S9 H locs hR hP hSS => ?_)
              obtain ⟨rfl, rn19, oc20, hd21, hs22, mo23, ah24, bo25, rfl⟩ := hR
              have hP : va_P g.1 cl_X (mo_V g th ks kc rn19 oc20 hd21 hs22 se bd (nI 3) dk dp 1 bo25 ((k_cnt (k_lead se bd 3 (lf2 ((nI (L - (n + 1))) : Int32).toNatClampNeg) (lf2 ((nI (L - (j + 1))) : Int32).toNatClampNeg)) wwi15 wsh15).1) ((k_cnt (k_lead se bd 3 (lf2 ((nI (L - (n + 1))) : Int32).toNatClampNeg) (lf2 ((nI (L - (j + 1))) : Int32).toNatClampNeg)) wwi15 wsh15).2) lf2 (nI L) mo23 ah24) H := hP
              refine jv_iinc (a := 1) hx hb dM_countAll_137 hl (k := 0) rfl (by decide) (by decide) (fun x26 ex26 ls hl => ?_)
              have hl : lv_has ls 3 [(2, .int x26), (1, .int (nI (L - (n + 1)))), (0, .ref (g.2.2 0))] := hl
              refine lv_goto (tgt := 105) hx hb dM_countAll_140 (by decide) ?_
              rw [nI_up (by omega)] at ex26
              have hlB := lv_sub hl [0, 1, 2] rfl
              have hPB := hP
              have hSB := hSS
              subst ex26
              simp only [kN3i] at K
              exact ih   _ _ _ _ _ _ _ _ _ _ _ _ hlB hPB hSB (by omega) K
        refine hloop n   wrn9 woc9 whd9 whs9 wmo9 wah9 wbo9 wwi9 wsh9 _ _ ls (by have h9 := lv_sub hl [0, 1, 2] rfl; rw [nI_up (by omega)] at ex14; subst ex14; exact h9) hP hSS (by omega) (fun rn27 oc28 hd29 hs30 mo31 ah32 bo33 H locs ls hl hP hSS  => ?_)
        clear hloop
        refine jv_iinc (a := 1) hx hb dM_countAll_143 hl (k := 0) rfl (by decide) (by decide) (fun x34 ex34 ls hl => ?_)
        have hl : lv_has ls 3 [(1, .int x34), (0, .ref (g.2.2 0))] := hl
        refine lv_goto (tgt := 66) hx hb dM_countAll_146 (by decide) ?_
        rw [nI_up (by omega)] at ex34
        have hlB := lv_sub hl [0, 1] rfl
        have hPB := hP
        have hSB := hSS
        subst ex34 ex14
        simp only [kN3o] at K
        exact ih   _ _ _ _ _ _ _ _ _ _ _ _ hlB hPB hSB (by omega) K
  refine hloop L   rn oc hd hs mo ah 0 (kz6 6 wi) (kz6 6 sh) _ _ ls (by have h9 := lv_sub hl [0, 1] rfl; subst ex8; rw [Nat.sub_self]; exact h9) hP hSS (Nat.le_refl _) (fun rn35 oc36 hd37 hs38 mo39 ah40 bo41 H locs ls hl hP hSS  => ?_)
  clear hloop
  exact mm_vret (S := (th, ks, kc, rn35, oc36, hd37, hs38, se, bd, (nI 3), dk, dp, 1, bo41, (kN3o se bd lf2 L L (kz6 6 wi) (kz6 6 sh)).1, (kN3o se bd lf2 L L (kz6 6 wi) (kz6 6 sh)).2, lf2, (nI L), mo39, ah40)) hx hb hr hlk dM_countAll_149 hP hSS (by exact ⟨rfl, rn35, oc36, hd37, hs38, mo39, ah40, bo41, lf2, (nI L), by subst ex8 ex2; subst elf; simp only [k_all, hL1, nI_clamp (show L < 2 ^ 31 by omega)]; rfl⟩)
set_option maxHeartbeats 4000000 in
set_option maxRecDepth 100000 in
theorem cM_countAll_c (l : Launch) (g : mo_E) (th : Int32) (ks : Nat → Int32) (kc : Int32) (rn : Nat → Int32) (oc : Nat → Int32) (hd : Nat → Int32) (hs : Int32) (se : Nat → Int32) (bd : Nat → Int32) (bs : Int32) (dk : Nat → Int32) (dp : Int32) (bo : Int32) (wi : Nat → Int32) (sh : Nat → Int32) (lf : Nat → Int32) (lc : Int32) (mo : Int32) (ah : Int32)   (hap : mo_ap g)  : mm_M l yM_countAll bM_countAll 3 none 7 [.ref (g.2.2 0)] g (th, ks, kc, rn, oc, hd, hs, se, bd, bs, dk, dp, 1, bo, wi, sh, lf, lc, mo, ah) (fun v9 S9 => v9 = none ∧ S9 = (th, ks, kc, rn, oc, hd, hs, se, bd, bs, dk, dp, 1, bo, wi, sh, lf, lc, mo, ah)) := by
  refine Met.ofW (cc := bM_countAll) (maxL := 3) (ret := none) (by decide) rfl ?_
  intro p e s m args below meth c s₁ BB hml hv
  obtain ⟨rfl, hB⟩ := hv
  have hx := BB.exec
  have hb := BB.bytes
  have hr := BB.returns
  have hlk := BB.notSynchronized
  have hts := atoms_spec (ws := wd yM_countAll bM_countAll 3 none) BB.pre
  have hown : s.vm.findClass "HandTablesModel" = some m.cls := findClass_of_methodNamed BB.named
  have hS : CallFix p m c bM_countAll 3 s _ (wd yM_countAll bM_countAll 3 none) "HandTablesModel" := ⟨hx, hb, hml, hown, hts⟩
  obtain ⟨hP, hK⟩ := hB
  have hP : va_P g.1 cl_X (mo_V g th ks kc rn oc hd hs se bd bs dk dp 1 bo wi sh lf lc mo ah) s.heap := hP
  have hSS : va_S (mo_fr g) s.heap s.heap [] := va_S.rf
  have hl := lv_entry ([.ref (g.2.2 0)]) (n := 3) (Nat.le_of_ble_eq_true rfl)
  rw [lg_entry_eq]
  generalize (lg_sl ([.ref (g.2.2 0)]) ++ List.replicate (3 - (lg_sl ([.ref (g.2.2 0)])).length) Slot.unset).toArray = ls at hl ⊢
  have hl : lv_has ls 3 [(0, .ref (g.2.2 0))] := hl
  obtain ⟨H, eH⟩ : ∃ H, s.heap = H := ⟨_, rfl⟩
  obtain ⟨locs, eL⟩ : ∃ L, ([] : List Loc) = L := ⟨_, rfl⟩
  have hP : va_P g.1 cl_X (mo_V g th ks kc rn oc hd hs se bd bs dk dp 1 bo wi sh lf lc mo ah) H := by rw [← eH]; exact hP
  have hSS : va_S (mo_fr g) s.heap H locs := by rw [← eH, ← eL]; exact hSS
  refine mm_go eH eL ?_
  clear eH eL
  refine lv_aload_n hx hb dM_countAll_0 rfl (lv_at hl 0 rfl) ?_
  refine va_get (D := g.1) (ci := 1) (v := .int 1) (C := "HandTablesModel") (T := T_M) (N := 20) hx hb hts (fun w hw => wd_in (u_inM w hw)) hown hK hP 0 rfl rfl 12 (by decide) (hts _ (wd_in (gw_mem 469 rfl rfl))) (fun _ h => h) rfl dM_countAll_1 ?_
  refine lv_if_eq (tgt := 8) hx hb dM_countAll_4 (by decide) (fun hc1 => ?_) (fun hc1 => ?_)
  · first | exact absurd hc1 (by decide) | exact absurd (by decide) hc1
  exact mm_vret (S := (th, ks, kc, rn, oc, hd, hs, se, bd, bs, dk, dp, 1, bo, wi, sh, lf, lc, mo, ah)) hx hb hr hlk dM_countAll_7 hP hSS (by exact ⟨by (try simp only []) <;> rfl, by (try simp only []) <;> rfl⟩)
