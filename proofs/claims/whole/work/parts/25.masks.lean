/-! the model: value, category, best, worth, sets, first -/
theorem k_bit (x : Int64) (k : Int32) : jr x k &&& 1 = 0 ∨ jr x k &&& 1 = 1 := by
  have h : ∀ y : BitVec 64, y &&& 1#64 = 0#64 ∨ y &&& 1#64 = 1#64 := by
    intro y
    have h1 : (y &&& 1#64).toNat = y.toNat % 2 := by
      rw [BitVec.toNat_and]
      exact Nat.and_one_is_mod _
    have h2 : y.toNat % 2 = 0 ∨ y.toNat % 2 = 1 := by omega
    rcases h2 with z | z
    · exact Or.inl (BitVec.eq_of_toNat_eq (by rw [h1, z]; rfl))
    · exact Or.inr (BitVec.eq_of_toNat_eq (by rw [h1, z]; rfl))
  rcases h (jr x k).toBitVec with z | z
  · exact Or.inl (Int64.toBitVec_inj.mp z)
  · exact Or.inr (Int64.toBitVec_inj.mp z)
/-- how many of the bits of x from place 64 - n on are set -/
def kh_c (x : Int64) : Nat → Nat
  | 0 => 0
  | n + 1 => (if jr x (nI (64 - (n + 1))) &&& 1 = 1 then 1 else 0) + kh_c x n
theorem kh_le (x : Int64) : ∀ n, kh_c x n ≤ n
  | 0 => Nat.le_refl 0
  | n + 1 => by
    have := kh_le x n
    unfold kh_c
    split <;> omega
theorem kh_is (x : Int64) : ∀ (n q : Nat), kh_lp x n (nI q) = nI (q + kh_c x n)
  | 0, q => rfl
  | n + 1, q => by
    unfold kh_lp kh_c
    rcases k_bit x (nI (64 - (n + 1))) with h | h
    · rw [h, if_neg (by decide), show (0 : Int64).toInt32 = nI 0 from rfl, nI_add, kh_is x n]
      congr 1
      omega
    · rw [h, if_pos rfl, show (1 : Int64).toInt32 = nI 1 from rfl, nI_add, kh_is x n]
      congr 1
      omega
theorem kt_kh (x : Int64) : ∀ n, n ≤ 52 → kt_c x n ≤ kh_c x (n + 12)
  | 0, _ => Nat.zero_le _
  | n + 1, h => by
    have h1 := kt_kh x n (by omega)
    show (if jr x (nI (52 - (n + 1))) &&& 1 = 1 then 1 else 0) + kt_c x n ≤ (if jr x (nI (64 - (n + 12 + 1))) &&& 1 = 1 then 1 else 0) + kh_c x (n + 12)
    rw [show 64 - (n + 12 + 1) = 52 - (n + 1) by omega]
    omega
theorem k_hand57 {x : Int64} (h : ¬ k_isHand x = 0) : 5 ≤ kh_c x 64 ∧ kh_c x 64 ≤ 7 := by
  have e : kh_lp x 64 0 = nI (kh_c x 64) := by
    have := kh_is x 64 0
    rw [Nat.zero_add] at this
    exact this
  have hl := kh_le x 64
  unfold k_isHand at h
  split at h
  · split at h
    · exact absurd rfl h
    · split at h
      · exact absurd rfl h
      · rename_i h1 h2
        rw [e] at h1 h2
        have g1 : ¬ kh_c x 64 < 5 := fun z => h1 (nI_lt (b := 5) z (by decide))
        have g2 : ¬ 7 < kh_c x 64 := fun z => h2 (nI_lt z (by omega))
        omega
  · exact absurd rfl h
theorem k_hand7 {x : Int64} (h : ¬ k_isHand x = 0) : kt_c x 52 ≤ 7 := Nat.le_trans (kt_kh x 52 (by omega)) (k_hand57 h).2
theorem kt_ok (x : Int64) : ∀ (n q : Nat) (f : Nat → Int32), n ≤ 52 → q + kt_c x n ≤ 7 → (∀ i, i < q → vp_in (f i) 52) → (kt_lp x n (nI q) f).1 = nI (q + kt_c x n) ∧ ∀ i, i < q + kt_c x n → vp_in ((kt_lp x n (nI q) f).2 i) 52
  | 0, q, f, _, _, hf => ⟨rfl, hf⟩
  | n + 1, q, f, hn, h7, hf => by
    unfold kt_lp
    unfold kt_c at h7 ⊢
    by_cases hb : jr x (nI (52 - (n + 1))) &&& 1 = 1
    · rw [if_pos hb] at h7
      rw [if_pos hb, if_pos hb, nI_1, nI_clamp (by omega)]
      have := kt_ok x n (q + 1) (upd f q (nI (52 - (n + 1)))) (by omega) (by omega) (fun i hi => by
        by_cases e : i = q
        · subst e; rw [pk_us]; exact vp_in_nI (by omega) (by decide)
        · rw [pk_un e]; exact hf i (by omega))
      rw [show q + (1 + kt_c x n) = q + 1 + kt_c x n by omega]
      exact this
    · rw [if_neg hb] at h7
      rw [if_neg hb, if_neg hb, Nat.zero_add]
      exact kt_ok x n q f (by omega) (by omega) hf
theorem kt_any (x : Int64) : ∀ (n q : Nat) (f f' : Nat → Int32), q + kt_c x n ≤ 7 → k_ag q f f' → k_ag (q + kt_c x n) (kt_lp x n (nI q) f).2 (kt_lp x n (nI q) f').2
  | 0, q, f, f', _, h => h
  | n + 1, q, f, f', h7, h => by
    unfold kt_lp
    unfold kt_c at h7 ⊢
    by_cases hb : jr x (nI (52 - (n + 1))) &&& 1 = 1
    · rw [if_pos hb] at h7
      rw [if_pos hb, if_pos hb, if_pos hb, nI_1, nI_clamp (by omega)]
      have := kt_any x n (q + 1) (upd f q (nI (52 - (n + 1)))) (upd f' q (nI (52 - (n + 1)))) (by omega) (fun i hi => by
        by_cases e : i = q
        · subst e; rw [pk_us, pk_us]
        · rw [pk_un e, pk_un e]; exact h i (by omega))
      rw [show q + (1 + kt_c x n) = q + 1 + kt_c x n by omega]
      exact this
    · rw [if_neg hb] at h7
      rw [if_neg hb, if_neg hb, if_neg hb, Nat.zero_add]
      exact kt_any x n q f f' (by omega) h
theorem k_take_ok {x : Int64} (f : Nat → Int32) (h : kt_c x 52 ≤ 7) : (k_take x f).1 = nI (kt_c x 52) ∧ ∀ i, i < kt_c x 52 → vp_in ((k_take x f).2 i) 52 := by
  have := kt_ok x 52 0 f (by omega) (by omega) (fun i hi => absurd hi (by omega))
  rw [Nat.zero_add] at this
  exact this
def k_hd (x : Int64) : Nat → Int32 := (k_take x (fun _ => 0)).2
theorem k_hd_any {x : Int64} (f : Nat → Int32) (h : kt_c x 52 ≤ 7) : k_ag (kt_c x 52) (k_take x f).2 (k_hd x) := by
  have := kt_any x 52 0 f (fun _ => 0) (by omega) (fun i hi => absurd hi (by omega))
  rw [Nat.zero_add] at this
  exact this
theorem ko_hg {h h' : Nat → Int32} {b : Nat} (hh : k_ag b h h') (k : Int32) (hb : b ≤ 7) : ∀ (n : Nat) (a u t : Int32) (r : Nat → Int32), n ≤ b → ko_lp h b k n a u t r = ko_lp h' b k n a u t r
  | 0, a, u, t, r, _ => rfl
  | n + 1, a, u, t, r, hn => by
    unfold ko_lp
    rw [nI_clamp (by omega), hh _ (by omega), ko_hg hh k hb n _ _ _ _ (by omega), ko_hg hh k hb n _ _ _ _ (by omega)]
theorem k_some_hg {h h' : Nat → Int32} {b : Nat} (hh : k_ag b h h') (hb : b ≤ 7) (k : Int32) : k_some h b k = k_some h' b k := ko_hg hh k hb b _ _ _ _ (Nat.le_refl _)
theorem km_hg {h h' : Nat → Int32} {b : Nat} (hh : k_ag b h h') (hb : b ≤ 7) : ∀ (n : Nat) (a : Int32), km_lp h b n a = km_lp h' b n a
  | 0, a => rfl
  | n + 1, a => by
    unfold km_lp
    rw [k_some_hg hh hb, km_hg hh hb n]
theorem k_best_hg {h h' : Nat → Int32} {b : Nat} (hh : k_ag b h h') (hb : b ≤ 7) : k_best h b = k_best h' b := km_hg hh hb _ _
/-- the best key of a set of cards -/
def k_bk (x : Int64) : Int32 := k_best (k_hd x) (kt_c x 52)
theorem k_bk_any {x : Int64} (f : Nat → Int32) (h : kt_c x 52 ≤ 7) : k_best (k_take x f).2 (kt_c x 52) = k_bk x := k_best_hg (k_hd_any f h) h
def kx_set (h : Nat → Int32) (b : Nat) (k : Int32) : Nat → Int64 → Int64
  | 0, w => w
  | n + 1, w => kx_set h b k n (if jri k (nI (b - (n + 1))) &&& 1 = 1 then w ||| jl 1 (h (nI (b - (n + 1))).toNatClampNeg) else w)
def k_set (h : Nat → Int32) (b : Nat) (k : Int32) : Int64 := kx_set h b k b 0
def kx_lp (h : Nat → Int32) (b : Nat) (y : Int32) : Nat → Int64 → Int64
  | 0, z => z
  | n + 1, z => if k_some h b (nI (2 ^ b - (n + 1))) = y then (if kx_set h b (nI (2 ^ b - (n + 1))) b 0 ≤ z then kx_lp h b y n z else kx_lp h b y n (kx_set h b (nI (2 ^ b - (n + 1))) b 0)) else kx_lp h b y n z
def k_bst0 (h : Nat → Int32) (b : Nat) (y : Int32) : Int64 := kx_lp h b y (2 ^ b) 0
theorem kx_set_hg {h h' : Nat → Int32} {b : Nat} (hh : k_ag b h h') (hb : b ≤ 7) (k : Int32) : ∀ (n : Nat) (w : Int64), n ≤ b → kx_set h b k n w = kx_set h' b k n w
  | 0, w, _ => rfl
  | n + 1, w, hn => by
    unfold kx_set
    rw [nI_clamp (by omega), hh _ (by omega), kx_set_hg hh hb k n _ (by omega)]
theorem kx_hg {h h' : Nat → Int32} {b : Nat} (hh : k_ag b h h') (hb : b ≤ 7) (y : Int32) : ∀ (n : Nat) (z : Int64), kx_lp h b y n z = kx_lp h' b y n z
  | 0, z => rfl
  | n + 1, z => by
    have e : ∀ k, kx_set h b k b 0 = kx_set h' b k b 0 := fun k => kx_set_hg hh hb k b 0 (Nat.le_refl _)
    unfold kx_lp
    rw [k_some_hg hh hb, e, kx_hg hh hb y n, kx_hg hh hb y n]
/-- the greatest of the best sets of five -/
def k_bst (x : Int64) : Int64 := k_bst0 (k_hd x) (kt_c x 52) (k_bk x)
theorem k_bst_any {x : Int64} (f : Nat → Int32) (h : kt_c x 52 ≤ 7) : kx_lp (k_take x f).2 (kt_c x 52) (k_bk x) (2 ^ kt_c x 52) 0 = k_bst x := kx_hg (k_hd_any f h) h _ _ _
def kv_lp (r : Int32) : Nat → Int32 → Int32 → Int32 → Int32
  | 0, _, a, _ => a
  | n + 1, w, a, y => kv_lp r n (w / 13) (a + y * (jrem (r / w) 13 + 1)) (y * 16)
def k_worth (k : Int32) : Int32 := kv_lp (jrem k 371293) (m_rowSize (k / 371293)).toNatClampNeg 28561 (k / 371293) 16
theorem k_rs (k : Int32) : ∃ r, r ≤ 5 ∧ m_rowSize k = nI r := by
  unfold m_rowSize
  repeat' split
  · exact ⟨1, by omega, rfl⟩
  · exact ⟨1, by omega, rfl⟩
  · exact ⟨2, by omega, rfl⟩
  · exact ⟨2, by omega, rfl⟩
  · exact ⟨3, by omega, rfl⟩
  · exact ⟨3, by omega, rfl⟩
  · exact ⟨4, by omega, rfl⟩
  · exact ⟨5, by omega, rfl⟩
theorem k_un : ∀ e, e < 5 → ¬ nI (13 ^ e) = 0 := by decide +kernel
theorem k_ud : ∀ e, e < 4 → nI (13 ^ (e + 1)) / 13 = nI (13 ^ e) := by decide +kernel
theorem k_us {n r : Nat} {w : Int32} (hr : r ≤ 5) (hn : n + 1 ≤ r) (h : w = nI (13 ^ (4 - (r - (n + 1))))) : n = 0 ∨ w / 13 = nI (13 ^ (4 - (r - n))) := by
  by_cases e : n = 0
  · exact Or.inl e
  · refine Or.inr ?_
    rw [h, show 4 - (r - (n + 1)) = (4 - (r - n)) + 1 by omega]
    exact k_ud _ (by omega)
def k_sets (c : Int32) : Int32 := if c = 0 then 1020 else if c = 1 then 384 else if c = 2 then 144 else if c = 3 then 64 else if c = 4 then 1020 else if c = 5 then 4 else if c = 6 then 24 else if c = 7 then 4 else if c = 8 then 4 else 384
theorem sw_m {c : Int32} (h0 : ¬ c = 0) (h1 : ¬ c = 1) (h2 : ¬ c = 2) (h3 : ¬ c = 3) (h4 : ¬ c = 4) (h5 : ¬ c = 5) (h6 : ¬ c = 6) (h7 : ¬ c = 7) (h8 : ¬ c = 8) : c.toInt < 0 ∨ 8 < c.toInt := by
  have g0 := lv_neT h0 (a := 0) rfl
  have g1 := lv_neT h1 (a := 1) rfl
  have g2 := lv_neT h2 (a := 2) rfl
  have g3 := lv_neT h3 (a := 3) rfl
  have g4 := lv_neT h4 (a := 4) rfl
  have g5 := lv_neT h5 (a := 5) rfl
  have g6 := lv_neT h6 (a := 6) rfl
  have g7 := lv_neT h7 (a := 7) rfl
  have g8 := lv_neT h8 (a := 8) rfl
  omega
theorem k_vin {v : Int32} (h1 : ¬ v < 0) (h2 : v < 7462) : vp_in v 7462 := by
  obtain ⟨j, hj, e⟩ := nI_of h1
  rw [e] at h2 ⊢
  have : j < 7462 := (nI_ltI (b := 7462) (by omega) (by decide)).mp h2
  exact vp_in_nI this (by decide)
set_option maxHeartbeats 4000000 in
set_option maxRecDepth 100000 in
theorem cM_value (l : Launch) (g : mo_E) (th : Int32) (ks : Nat → Int32) (kc : Int32) (rn : Nat → Int32) (oc : Nat → Int32) (hd : Nat → Int32) (hs : Int32) (se : Nat → Int32) (bd : Nat → Int32) (bs : Int32) (dk : Nat → Int32) (dp : Int32) (ct : Int32) (bo : Int32) (wi : Nat → Int32) (sh : Nat → Int32) (lf : Nat → Int32) (lc : Int32) (mo : Int32) (ah : Int32) (x : Int64)  (hap : mo_ap g)  : mm_M l yM_value bM_value 3 (some .int) 4 [.ref (g.2.2 0), .long x] g (th, ks, kc, rn, oc, hd, hs, se, bd, bs, dk, dp, ct, bo, wi, sh, lf, lc, mo, ah) (fun v9 S9 => v9 = some (.int (if k_isHand x = 0 then 0 else k_below ks (k_bk x))) ∧ ∃ (rn' : Nat → Int32) (oc' : Nat → Int32) (hd' : Nat → Int32) (hs' : Int32), S9 = ((if k_isHand x = 0 then 1 else 0), ks, kc, rn', oc', hd', hs', se, bd, bs, dk, dp, ct, bo, wi, sh, lf, lc, mo, ah)) := by
  refine Met.ofW (cc := bM_value) (maxL := 3) (ret := (some .int)) (by decide) rfl ?_
  intro p e s m args below meth c s₁ BB hml hv
  obtain ⟨rfl, hB⟩ := hv
  have hx := BB.exec
  have hb := BB.bytes
  have hr := BB.returns
  have hlk := BB.notSynchronized
  have hts := atoms_spec (ws := wd yM_value bM_value 3 (some .int)) BB.pre
  have hown : s.vm.findClass "HandTablesModel" = some m.cls := findClass_of_methodNamed BB.named
  have hS : CallFix p m c bM_value 3 s _ (wd yM_value bM_value 3 (some .int)) "HandTablesModel" := ⟨hx, hb, hml, hown, hts⟩
  obtain ⟨hP, hK⟩ := hB
  have hP : va_P g.1 cl_X (mo_V g th ks kc rn oc hd hs se bd bs dk dp ct bo wi sh lf lc mo ah) s.heap := hP
  have hSS : va_S (mo_fr g) s.heap s.heap [] := va_S.rf
  have hl := lv_entry ([.ref (g.2.2 0), .long x]) (n := 3) (Nat.le_of_ble_eq_true rfl)
  rw [lg_entry_eq]
  generalize (lg_sl ([.ref (g.2.2 0), .long x]) ++ List.replicate (3 - (lg_sl ([.ref (g.2.2 0), .long x])).length) Slot.unset).toArray = ls at hl ⊢
  have hl : lv_has ls 3 [(0, .ref (g.2.2 0)), (1, .long x)] := hl
  obtain ⟨H, eH⟩ : ∃ H, s.heap = H := ⟨_, rfl⟩
  obtain ⟨locs, eL⟩ : ∃ L, ([] : List Loc) = L := ⟨_, rfl⟩
  have hP : va_P g.1 cl_X (mo_V g th ks kc rn oc hd hs se bd bs dk dp ct bo wi sh lf lc mo ah) H := by rw [← eH]; exact hP
  have hSS : va_S (mo_fr g) s.heap H locs := by rw [← eH, ← eL]; exact hSS
  refine mm_go eH eL ?_
  clear eH eL
  refine lv_aload_n hx hb dM_value_0 rfl (lv_at hl 0 rfl) ?_
  refine lv_lload_n hx hb dM_value_1 rfl (lv_at hl 1 rfl) ?_
  refine pu_SH (cM_isHand l _) rfl kM_M_isHand hS ⟨Nat.le_of_ble_eq_true rfl, Nat.le_of_ble_eq_true rfl⟩ hl.1 rfl (Nat.le_of_ble_eq_true rfl) ⟨Nat.zero_le _, Nat.zero_le _⟩ dM_value_2 ?_
  refine lv_if_eq (tgt := 12) hx hb dM_value_5 (by decide) (fun hc1 => ?_) (fun hc1 => ?_)
  · refine lv_iconst (v := 1) hx hb dM_value_12 (by decide) ?_
    refine va_put (D := g.1) (ci := 1) (v := .int 1) (ty := .int) (C := "HandTablesModel") (T := T_M) (N := 20) hx hb hts (fun w hw => wd_in (u_inM w hw)) tf_M tf_M_ok n_M hown hK hP (mo_D hap) hSS 0 rfl rfl 0 (by decide) (hts _ (wd_in (gw_mem 457 rfl rfl))) (fun _ h => h) rfl (by decide +kernel) rfl rfl (Nat.le_of_ble_eq_true rfl) dM_value_13 (fun H locs hP _ hSS => ?_)
    have hP : va_P g.1 cl_X (mo_V g 1 ks kc rn oc hd hs se bd bs dk dp ct bo wi sh lf lc mo ah) H := hP
    refine lv_aload_n hx hb dM_value_16 rfl (lv_at hl 0 rfl) ?_
    refine va_get (D := g.1) (ci := 1) (v := .int 1) (C := "HandTablesModel") (T := T_M) (N := 20) hx hb hts (fun w hw => wd_in (u_inM w hw)) hown hK hP 0 rfl rfl 0 (by decide) (hts _ (wd_in (gw_mem 457 rfl rfl))) (fun _ h => h) rfl dM_value_17 ?_
    refine lv_if_le (tgt := 25) hx hb dM_value_20 (by decide) (fun hc2 => ?_) (fun hc2 => ?_)
    · first | exact absurd hc2 (by decide) | exact absurd (by decide) hc2
    refine lv_iconst (v := 0) hx hb dM_value_23 (by decide) ?_
    exact mm_iret (S := (1, ks, kc, rn, oc, hd, hs, se, bd, bs, dk, dp, ct, bo, wi, sh, lf, lc, mo, ah)) hx hb hr hlk dM_value_24 hP hSS (by exact ⟨by rw [if_pos hc1], rn, oc, hd, hs, by rw [if_pos hc1]⟩)
  · refine lv_iconst (v := 0) hx hb dM_value_8 (by decide) ?_
    refine lv_goto (tgt := 13) hx hb dM_value_9 (by decide) ?_
    refine va_put (D := g.1) (ci := 1) (v := .int 0) (ty := .int) (C := "HandTablesModel") (T := T_M) (N := 20) hx hb hts (fun w hw => wd_in (u_inM w hw)) tf_M tf_M_ok n_M hown hK hP (mo_D hap) hSS 0 rfl rfl 0 (by decide) (hts _ (wd_in (gw_mem 457 rfl rfl))) (fun _ h => h) rfl (by decide +kernel) rfl rfl (Nat.le_of_ble_eq_true rfl) dM_value_13 (fun H locs hP _ hSS => ?_)
    have hP : va_P g.1 cl_X (mo_V g 0 ks kc rn oc hd hs se bd bs dk dp ct bo wi sh lf lc mo ah) H := hP
    refine lv_aload_n hx hb dM_value_16 rfl (lv_at hl 0 rfl) ?_
    refine va_get (D := g.1) (ci := 1) (v := .int 0) (C := "HandTablesModel") (T := T_M) (N := 20) hx hb hts (fun w hw => wd_in (u_inM w hw)) hown hK hP 0 rfl rfl 0 (by decide) (hts _ (wd_in (gw_mem 457 rfl rfl))) (fun _ h => h) rfl dM_value_17 ?_
    refine lv_if_le (tgt := 25) hx hb dM_value_20 (by decide) (fun hc3 => ?_) (fun hc3 => ?_)
    rotate_left
    · first | exact absurd hc3 (by decide) | exact absurd (by decide) hc3
    refine lv_aload_n hx hb dM_value_25 rfl (lv_at hl 0 rfl) ?_
    refine lv_lload_n hx hb dM_value_26 rfl (lv_at hl 1 rfl) ?_
    have h7 := k_hand7 hc1
    refine mm_V (cM_takeCards l g 0 ks kc rn oc hd hs se bd bs dk dp ct bo wi sh lf lc mo ah x hap h7) rfl kM_M_takeCards hS hK hP ⟨Nat.le_of_ble_eq_true rfl, Nat.le_of_ble_eq_true rfl⟩ hl.1 rfl (Nat.le_of_ble_eq_true rfl) ⟨Nat.zero_le _, Nat.zero_le _⟩ dM_value_27 hSS (fun v9 S9 H locs hR hP hSS => ?_)
    obtain ⟨rfl, rfl⟩ := hR
    have hP : va_P g.1 cl_X (mo_V g 0 ks kc rn oc ((k_take x hd).2) ((k_take x hd).1) se bd bs dk dp ct bo wi sh lf lc mo ah) H := hP
    refine lv_aload_n hx hb dM_value_30 rfl (lv_at hl 0 rfl) ?_
    refine lv_aload_n hx hb dM_value_31 rfl (lv_at hl 0 rfl) ?_
    obtain ⟨hT1, hT2⟩ := k_take_ok hd h7
    rw [hT1] at hP
    obtain ⟨b, eb⟩ : ∃ b, kt_c x 52 = b := ⟨_, rfl⟩
    obtain ⟨hd2, eh⟩ : ∃ h, (k_take x hd).2 = h := ⟨_, rfl⟩
    rw [eb, eh] at hT2
    rw [eb, eh] at hP
    have hb7 : b ≤ 7 := by omega
    have hh := hT2
    refine mm_V (cM_bestKey l g 0 ks kc rn oc hd2 b se bd bs dk dp ct bo wi sh lf lc mo ah hap hb7 hh) rfl kM_M_bestKey hS hK hP ⟨Nat.le_of_ble_eq_true rfl, Nat.le_of_ble_eq_true rfl⟩ hl.1 rfl (Nat.le_of_ble_eq_true rfl) ⟨Nat.zero_le _, Nat.zero_le _⟩ dM_value_32 hSS (fun v9 S9 H locs hR hP hSS => ?_)
    obtain ⟨rfl, rn4, oc5, rfl⟩ := hR
    have hP : va_P g.1 cl_X (mo_V g 0 ks kc rn4 oc5 hd2 (nI b) se bd bs dk dp ct bo wi sh lf lc mo ah) H := hP
    refine mm_V (cM_below l g 0 ks kc rn4 oc5 hd2 (nI b) se bd bs dk dp ct bo wi sh lf lc mo ah (k_best hd2 b) hap) rfl kM_M_below hS hK hP ⟨Nat.le_of_ble_eq_true rfl, Nat.le_of_ble_eq_true rfl⟩ hl.1 rfl (Nat.le_of_ble_eq_true rfl) ⟨Nat.zero_le _, Nat.zero_le _⟩ dM_value_35 hSS (fun v9 S9 H locs hR hP hSS => ?_)
    obtain ⟨rfl, rfl⟩ := hR
    have hP : va_P g.1 cl_X (mo_V g 0 ks kc rn4 oc5 hd2 (nI b) se bd bs dk dp ct bo wi sh lf lc mo ah) H := hP
    exact mm_iret (S := (0, ks, kc, rn4, oc5, hd2, (nI b), se, bd, bs, dk, dp, ct, bo, wi, sh, lf, lc, mo, ah)) hx hb hr hlk dM_value_38 hP hSS (by exact ⟨by subst eb; subst eh; rw [if_neg hc1, k_bk_any hd h7], rn4, oc5, hd2, (nI b), by rw [if_neg hc1]⟩)
set_option maxHeartbeats 4000000 in
set_option maxRecDepth 100000 in
theorem cM_category (l : Launch) (g : mo_E) (th : Int32) (ks : Nat → Int32) (kc : Int32) (rn : Nat → Int32) (oc : Nat → Int32) (hd : Nat → Int32) (hs : Int32) (se : Nat → Int32) (bd : Nat → Int32) (bs : Int32) (dk : Nat → Int32) (dp : Int32) (ct : Int32) (bo : Int32) (wi : Nat → Int32) (sh : Nat → Int32) (lf : Nat → Int32) (lc : Int32) (mo : Int32) (ah : Int32) (x : Int64)  (hap : mo_ap g)  : mm_M l yM_category bM_category 3 (some .int) 4 [.ref (g.2.2 0), .long x] g (th, ks, kc, rn, oc, hd, hs, se, bd, bs, dk, dp, ct, bo, wi, sh, lf, lc, mo, ah) (fun v9 S9 => v9 = some (.int (if k_isHand x = 0 then 0 else k_bk x / 371293)) ∧ ∃ (rn' : Nat → Int32) (oc' : Nat → Int32) (hd' : Nat → Int32) (hs' : Int32), S9 = ((if k_isHand x = 0 then 1 else 0), ks, kc, rn', oc', hd', hs', se, bd, bs, dk, dp, ct, bo, wi, sh, lf, lc, mo, ah)) := by
  refine Met.ofW (cc := bM_category) (maxL := 3) (ret := (some .int)) (by decide) rfl ?_
  intro p e s m args below meth c s₁ BB hml hv
  obtain ⟨rfl, hB⟩ := hv
  have hx := BB.exec
  have hb := BB.bytes
  have hr := BB.returns
  have hlk := BB.notSynchronized
  have hts := atoms_spec (ws := wd yM_category bM_category 3 (some .int)) BB.pre
  have hown : s.vm.findClass "HandTablesModel" = some m.cls := findClass_of_methodNamed BB.named
  have hS : CallFix p m c bM_category 3 s _ (wd yM_category bM_category 3 (some .int)) "HandTablesModel" := ⟨hx, hb, hml, hown, hts⟩
  obtain ⟨hP, hK⟩ := hB
  have hP : va_P g.1 cl_X (mo_V g th ks kc rn oc hd hs se bd bs dk dp ct bo wi sh lf lc mo ah) s.heap := hP
  have hSS : va_S (mo_fr g) s.heap s.heap [] := va_S.rf
  have hl := lv_entry ([.ref (g.2.2 0), .long x]) (n := 3) (Nat.le_of_ble_eq_true rfl)
  rw [lg_entry_eq]
  generalize (lg_sl ([.ref (g.2.2 0), .long x]) ++ List.replicate (3 - (lg_sl ([.ref (g.2.2 0), .long x])).length) Slot.unset).toArray = ls at hl ⊢
  have hl : lv_has ls 3 [(0, .ref (g.2.2 0)), (1, .long x)] := hl
  obtain ⟨H, eH⟩ : ∃ H, s.heap = H := ⟨_, rfl⟩
  obtain ⟨locs, eL⟩ : ∃ L, ([] : List Loc) = L := ⟨_, rfl⟩
  have hP : va_P g.1 cl_X (mo_V g th ks kc rn oc hd hs se bd bs dk dp ct bo wi sh lf lc mo ah) H := by rw [← eH]; exact hP
  have hSS : va_S (mo_fr g) s.heap H locs := by rw [← eH, ← eL]; exact hSS
  refine mm_go eH eL ?_
  clear eH eL
  refine lv_aload_n hx hb dM_category_0 rfl (lv_at hl 0 rfl) ?_
  refine lv_lload_n hx hb dM_category_1 rfl (lv_at hl 1 rfl) ?_
  refine pu_SH (cM_isHand l _) rfl kM_M_isHand hS ⟨Nat.le_of_ble_eq_true rfl, Nat.le_of_ble_eq_true rfl⟩ hl.1 rfl (Nat.le_of_ble_eq_true rfl) ⟨Nat.zero_le _, Nat.zero_le _⟩ dM_category_2 ?_
  refine lv_if_eq (tgt := 12) hx hb dM_category_5 (by decide) (fun hc1 => ?_) (fun hc1 => ?_)
  · refine lv_iconst (v := 1) hx hb dM_category_12 (by decide) ?_
    refine va_put (D := g.1) (ci := 1) (v := .int 1) (ty := .int) (C := "HandTablesModel") (T := T_M) (N := 20) hx hb hts (fun w hw => wd_in (u_inM w hw)) tf_M tf_M_ok n_M hown hK hP (mo_D hap) hSS 0 rfl rfl 0 (by decide) (hts _ (wd_in (gw_mem 457 rfl rfl))) (fun _ h => h) rfl (by decide +kernel) rfl rfl (Nat.le_of_ble_eq_true rfl) dM_category_13 (fun H locs hP _ hSS => ?_)
    have hP : va_P g.1 cl_X (mo_V g 1 ks kc rn oc hd hs se bd bs dk dp ct bo wi sh lf lc mo ah) H := hP
    refine lv_aload_n hx hb dM_category_16 rfl (lv_at hl 0 rfl) ?_
    refine va_get (D := g.1) (ci := 1) (v := .int 1) (C := "HandTablesModel") (T := T_M) (N := 20) hx hb hts (fun w hw => wd_in (u_inM w hw)) hown hK hP 0 rfl rfl 0 (by decide) (hts _ (wd_in (gw_mem 457 rfl rfl))) (fun _ h => h) rfl dM_category_17 ?_
    refine lv_if_le (tgt := 25) hx hb dM_category_20 (by decide) (fun hc2 => ?_) (fun hc2 => ?_)
    · first | exact absurd hc2 (by decide) | exact absurd (by decide) hc2
    refine lv_iconst (v := 0) hx hb dM_category_23 (by decide) ?_
    exact mm_iret (S := (1, ks, kc, rn, oc, hd, hs, se, bd, bs, dk, dp, ct, bo, wi, sh, lf, lc, mo, ah)) hx hb hr hlk dM_category_24 hP hSS (by exact ⟨by rw [if_pos hc1], rn, oc, hd, hs, by rw [if_pos hc1]⟩)
  · refine lv_iconst (v := 0) hx hb dM_category_8 (by decide) ?_
    refine lv_goto (tgt := 13) hx hb dM_category_9 (by decide) ?_
    refine va_put (D := g.1) (ci := 1) (v := .int 0) (ty := .int) (C := "HandTablesModel") (T := T_M) (N := 20) hx hb hts (fun w hw => wd_in (u_inM w hw)) tf_M tf_M_ok n_M hown hK hP (mo_D hap) hSS 0 rfl rfl 0 (by decide) (hts _ (wd_in (gw_mem 457 rfl rfl))) (fun _ h => h) rfl (by decide +kernel) rfl rfl (Nat.le_of_ble_eq_true rfl) dM_category_13 (fun H locs hP _ hSS => ?_)
    have hP : va_P g.1 cl_X (mo_V g 0 ks kc rn oc hd hs se bd bs dk dp ct bo wi sh lf lc mo ah) H := hP
    refine lv_aload_n hx hb dM_category_16 rfl (lv_at hl 0 rfl) ?_
    refine va_get (D := g.1) (ci := 1) (v := .int 0) (C := "HandTablesModel") (T := T_M) (N := 20) hx hb hts (fun w hw => wd_in (u_inM w hw)) hown hK hP 0 rfl rfl 0 (by decide) (hts _ (wd_in (gw_mem 457 rfl rfl))) (fun _ h => h) rfl dM_category_17 ?_
    refine lv_if_le (tgt := 25) hx hb dM_category_20 (by decide) (fun hc3 => ?_) (fun hc3 => ?_)
    rotate_left
    · first | exact absurd hc3 (by decide) | exact absurd (by decide) hc3
    refine lv_aload_n hx hb dM_category_25 rfl (lv_at hl 0 rfl) ?_
    refine lv_lload_n hx hb dM_category_26 rfl (lv_at hl 1 rfl) ?_
    have h7 := k_hand7 hc1
    refine mm_V (cM_takeCards l g 0 ks kc rn oc hd hs se bd bs dk dp ct bo wi sh lf lc mo ah x hap h7) rfl kM_M_takeCards hS hK hP ⟨Nat.le_of_ble_eq_true rfl, Nat.le_of_ble_eq_true rfl⟩ hl.1 rfl (Nat.le_of_ble_eq_true rfl) ⟨Nat.zero_le _, Nat.zero_le _⟩ dM_category_27 hSS (fun v9 S9 H locs hR hP hSS => ?_)
    obtain ⟨rfl, rfl⟩ := hR
    have hP : va_P g.1 cl_X (mo_V g 0 ks kc rn oc ((k_take x hd).2) ((k_take x hd).1) se bd bs dk dp ct bo wi sh lf lc mo ah) H := hP
    refine lv_aload_n hx hb dM_category_30 rfl (lv_at hl 0 rfl) ?_
    obtain ⟨hT1, hT2⟩ := k_take_ok hd h7
    rw [hT1] at hP
    obtain ⟨b, eb⟩ : ∃ b, kt_c x 52 = b := ⟨_, rfl⟩
    obtain ⟨hd2, eh⟩ : ∃ h, (k_take x hd).2 = h := ⟨_, rfl⟩
    rw [eb, eh] at hT2
    rw [eb, eh] at hP
    have hb7 : b ≤ 7 := by omega
    have hh := hT2
    refine mm_V (cM_bestKey l g 0 ks kc rn oc hd2 b se bd bs dk dp ct bo wi sh lf lc mo ah hap hb7 hh) rfl kM_M_bestKey hS hK hP ⟨Nat.le_of_ble_eq_true rfl, Nat.le_of_ble_eq_true rfl⟩ hl.1 rfl (Nat.le_of_ble_eq_true rfl) ⟨Nat.zero_le _, Nat.zero_le _⟩ dM_category_31 hSS (fun v9 S9 H locs hR hP hSS => ?_)
    obtain ⟨rfl, rn4, oc5, rfl⟩ := hR
    have hP : va_P g.1 cl_X (mo_V g 0 ks kc rn4 oc5 hd2 (nI b) se bd bs dk dp ct bo wi sh lf lc mo ah) H := hP
    refine lv_ldc (v := 371293) hx hb hown (hts _ (wd_in (gw_mem 444 rfl rfl))) dM_category_34 ?_
    refine lv_idiv hx hb dM_category_36 (by decide) ?_
    exact mm_iret (S := (0, ks, kc, rn4, oc5, hd2, (nI b), se, bd, bs, dk, dp, ct, bo, wi, sh, lf, lc, mo, ah)) hx hb hr hlk dM_category_37 hP hSS (by exact ⟨by subst eb; subst eh; rw [if_neg hc1, k_bk_any hd h7], rn4, oc5, hd2, (nI b), by rw [if_neg hc1]⟩)
set_option maxHeartbeats 4000000 in
set_option maxRecDepth 100000 in
theorem cM_best (l : Launch) (g : mo_E) (th : Int32) (ks : Nat → Int32) (kc : Int32) (rn : Nat → Int32) (oc : Nat → Int32) (hd : Nat → Int32) (hs : Int32) (se : Nat → Int32) (bd : Nat → Int32) (bs : Int32) (dk : Nat → Int32) (dp : Int32) (ct : Int32) (bo : Int32) (wi : Nat → Int32) (sh : Nat → Int32) (lf : Nat → Int32) (lc : Int32) (mo : Int32) (ah : Int32) (x : Int64)  (hap : mo_ap g)  : mm_M l yM_best bM_best 10 (some .long) 4 [.ref (g.2.2 0), .long x] g (th, ks, kc, rn, oc, hd, hs, se, bd, bs, dk, dp, ct, bo, wi, sh, lf, lc, mo, ah) (fun v9 S9 => v9 = some (.long (if k_isHand x = 0 then 0 else k_bst x)) ∧ ∃ (rn' : Nat → Int32) (oc' : Nat → Int32) (hd' : Nat → Int32) (hs' : Int32), S9 = ((if k_isHand x = 0 then 1 else 0), ks, kc, rn', oc', hd', hs', se, bd, bs, dk, dp, ct, bo, wi, sh, lf, lc, mo, ah)) := by
  refine Met.ofW (cc := bM_best) (maxL := 10) (ret := (some .long)) (by decide) rfl ?_
  intro p e s m args below meth c s₁ BB hml hv
  obtain ⟨rfl, hB⟩ := hv
  have hx := BB.exec
  have hb := BB.bytes
  have hr := BB.returns
  have hlk := BB.notSynchronized
  have hts := atoms_spec (ws := wd yM_best bM_best 10 (some .long)) BB.pre
  have hown : s.vm.findClass "HandTablesModel" = some m.cls := findClass_of_methodNamed BB.named
  have hS : CallFix p m c bM_best 10 s _ (wd yM_best bM_best 10 (some .long)) "HandTablesModel" := ⟨hx, hb, hml, hown, hts⟩
  obtain ⟨hP, hK⟩ := hB
  have hP : va_P g.1 cl_X (mo_V g th ks kc rn oc hd hs se bd bs dk dp ct bo wi sh lf lc mo ah) s.heap := hP
  have hSS : va_S (mo_fr g) s.heap s.heap [] := va_S.rf
  have hl := lv_entry ([.ref (g.2.2 0), .long x]) (n := 10) (Nat.le_of_ble_eq_true rfl)
  rw [lg_entry_eq]
  generalize (lg_sl ([.ref (g.2.2 0), .long x]) ++ List.replicate (10 - (lg_sl ([.ref (g.2.2 0), .long x])).length) Slot.unset).toArray = ls at hl ⊢
  have hl : lv_has ls 10 [(0, .ref (g.2.2 0)), (1, .long x)] := hl
  obtain ⟨H, eH⟩ : ∃ H, s.heap = H := ⟨_, rfl⟩
  obtain ⟨locs, eL⟩ : ∃ L, ([] : List Loc) = L := ⟨_, rfl⟩
  have hP : va_P g.1 cl_X (mo_V g th ks kc rn oc hd hs se bd bs dk dp ct bo wi sh lf lc mo ah) H := by rw [← eH]; exact hP
  have hSS : va_S (mo_fr g) s.heap H locs := by rw [← eH, ← eL]; exact hSS
  refine mm_go eH eL ?_
  clear eH eL
  refine lv_aload_n hx hb dM_best_0 rfl (lv_at hl 0 rfl) ?_
  refine lv_lload_n hx hb dM_best_1 rfl (lv_at hl 1 rfl) ?_
  refine pu_SH (cM_isHand l _) rfl kM_M_isHand hS ⟨Nat.le_of_ble_eq_true rfl, Nat.le_of_ble_eq_true rfl⟩ hl.1 rfl (Nat.le_of_ble_eq_true rfl) ⟨Nat.zero_le _, Nat.zero_le _⟩ dM_best_2 ?_
  refine lv_if_eq (tgt := 12) hx hb dM_best_5 (by decide) (fun hc1 => ?_) (fun hc1 => ?_)
  · refine lv_iconst (v := 1) hx hb dM_best_12 (by decide) ?_
    refine va_put (D := g.1) (ci := 1) (v := .int 1) (ty := .int) (C := "HandTablesModel") (T := T_M) (N := 20) hx hb hts (fun w hw => wd_in (u_inM w hw)) tf_M tf_M_ok n_M hown hK hP (mo_D hap) hSS 0 rfl rfl 0 (by decide) (hts _ (wd_in (gw_mem 457 rfl rfl))) (fun _ h => h) rfl (by decide +kernel) rfl rfl (Nat.le_of_ble_eq_true rfl) dM_best_13 (fun H locs hP _ hSS => ?_)
    have hP : va_P g.1 cl_X (mo_V g 1 ks kc rn oc hd hs se bd bs dk dp ct bo wi sh lf lc mo ah) H := hP
    refine lv_aload_n hx hb dM_best_16 rfl (lv_at hl 0 rfl) ?_
    refine va_get (D := g.1) (ci := 1) (v := .int 1) (C := "HandTablesModel") (T := T_M) (N := 20) hx hb hts (fun w hw => wd_in (u_inM w hw)) hown hK hP 0 rfl rfl 0 (by decide) (hts _ (wd_in (gw_mem 457 rfl rfl))) (fun _ h => h) rfl dM_best_17 ?_
    refine lv_if_le (tgt := 25) hx hb dM_best_20 (by decide) (fun hc2 => ?_) (fun hc2 => ?_)
    · first | exact absurd hc2 (by decide) | exact absurd (by decide) hc2
    refine lv_lconst (v := 0) hx hb dM_best_23 (by decide) ?_
    exact mm_lret (S := (1, ks, kc, rn, oc, hd, hs, se, bd, bs, dk, dp, ct, bo, wi, sh, lf, lc, mo, ah)) hx hb hr hlk dM_best_24 hP hSS (by exact ⟨by rw [if_pos hc1], rn, oc, hd, hs, by rw [if_pos hc1]⟩)
  · refine lv_iconst (v := 0) hx hb dM_best_8 (by decide) ?_
    refine lv_goto (tgt := 13) hx hb dM_best_9 (by decide) ?_
    refine va_put (D := g.1) (ci := 1) (v := .int 0) (ty := .int) (C := "HandTablesModel") (T := T_M) (N := 20) hx hb hts (fun w hw => wd_in (u_inM w hw)) tf_M tf_M_ok n_M hown hK hP (mo_D hap) hSS 0 rfl rfl 0 (by decide) (hts _ (wd_in (gw_mem 457 rfl rfl))) (fun _ h => h) rfl (by decide +kernel) rfl rfl (Nat.le_of_ble_eq_true rfl) dM_best_13 (fun H locs hP _ hSS => ?_)
    have hP : va_P g.1 cl_X (mo_V g 0 ks kc rn oc hd hs se bd bs dk dp ct bo wi sh lf lc mo ah) H := hP
    refine lv_aload_n hx hb dM_best_16 rfl (lv_at hl 0 rfl) ?_
    refine va_get (D := g.1) (ci := 1) (v := .int 0) (C := "HandTablesModel") (T := T_M) (N := 20) hx hb hts (fun w hw => wd_in (u_inM w hw)) hown hK hP 0 rfl rfl 0 (by decide) (hts _ (wd_in (gw_mem 457 rfl rfl))) (fun _ h => h) rfl dM_best_17 ?_
    refine lv_if_le (tgt := 25) hx hb dM_best_20 (by decide) (fun hc3 => ?_) (fun hc3 => ?_)
    rotate_left
    · first | exact absurd hc3 (by decide) | exact absurd (by decide) hc3
    refine lv_aload_n hx hb dM_best_25 rfl (lv_at hl 0 rfl) ?_
    refine lv_lload_n hx hb dM_best_26 rfl (lv_at hl 1 rfl) ?_
    have h7 := k_hand7 hc1
    refine mm_V (cM_takeCards l g 0 ks kc rn oc hd hs se bd bs dk dp ct bo wi sh lf lc mo ah x hap h7) rfl kM_M_takeCards hS hK hP ⟨Nat.le_of_ble_eq_true rfl, Nat.le_of_ble_eq_true rfl⟩ hl.1 rfl (Nat.le_of_ble_eq_true rfl) ⟨Nat.zero_le _, Nat.zero_le _⟩ dM_best_27 hSS (fun v9 S9 H locs hR hP hSS => ?_)
    obtain ⟨rfl, rfl⟩ := hR
    have hP : va_P g.1 cl_X (mo_V g 0 ks kc rn oc ((k_take x hd).2) ((k_take x hd).1) se bd bs dk dp ct bo wi sh lf lc mo ah) H := hP
    refine lv_aload_n hx hb dM_best_30 rfl (lv_at hl 0 rfl) ?_
    obtain ⟨hT1, hT2⟩ := k_take_ok hd h7
    rw [hT1] at hP
    obtain ⟨b, eb⟩ : ∃ b, kt_c x 52 = b := ⟨_, rfl⟩
    obtain ⟨hd2, eh⟩ : ∃ h, (k_take x hd).2 = h := ⟨_, rfl⟩
    rw [eb, eh] at hT2
    rw [eb, eh] at hP
    have hb7 : b ≤ 7 := by omega
    have hh := hT2
    refine mm_V (cM_bestKey l g 0 ks kc rn oc hd2 b se bd bs dk dp ct bo wi sh lf lc mo ah hap hb7 hh) rfl kM_M_bestKey hS hK hP ⟨Nat.le_of_ble_eq_true rfl, Nat.le_of_ble_eq_true rfl⟩ hl.1 rfl (Nat.le_of_ble_eq_true rfl) ⟨Nat.zero_le _, Nat.zero_le _⟩ dM_best_31 hSS (fun v9 S9 H locs hR hP hSS => ?_)
    obtain ⟨rfl, rn4, oc5, rfl⟩ := hR
    have hP : va_P g.1 cl_X (mo_V g 0 ks kc rn4 oc5 hd2 (nI b) se bd bs dk dp ct bo wi sh lf lc mo ah) H := hP
    refine jt_topi (fun x6 ex6 => ?_)
    refine lv_istore_n (lv' := [(3, .int x6), (0, .ref (g.2.2 0)), (1, .long x)]) hx hb dM_best_34 rfl hl (by decide) rfl (fun ls hl => ?_)
    refine lv_lconst (v := 0) hx hb dM_best_35 (by decide) ?_
    refine jt_topl (fun x7 ex7 => ?_)
    refine lv_lstore (lv' := [(4, .long x7), (3, .int x6), (0, .ref (g.2.2 0)), (1, .long x)]) hx hb dM_best_36 hl (by decide) rfl (fun ls hl => ?_)
    refine lv_iconst (v := 0) hx hb dM_best_38 (by decide) ?_
    refine jt_topi (fun x8 ex8 => ?_)
    refine lv_istore (lv' := [(6, .int x8), (4, .long x7), (3, .int x6), (0, .ref (g.2.2 0)), (1, .long x)]) hx hb dM_best_39 hl (by decide) rfl (fun ls hl => ?_)
    have hloop : ∀ (n : Nat) (z : Int64)  (wrn9 : Nat → Int32) (woc9 : Nat → Int32) (H : Heap) (locs : List Loc) (ls : Array Slot), lv_has ls 10 [(6, .int (nI (2 ^ b - n))), (4, .long z), (3, .int x6), (0, .ref (g.2.2 0))] → va_P g.1 cl_X (mo_V g 0 ks kc wrn9 woc9 hd2 (nI b) se bd bs dk dp ct bo wi sh lf lc mo ah) H → va_S (mo_fr g) s.heap H locs → (n ≤ 2 ^ b) → (∀ (rn' : Nat → Int32) (oc' : Nat → Int32) (H : Heap) (locs : List Loc) (ls : Array Slot), lv_has ls 10 [(4, .long (kx_lp hd2 b x6 n z))] → va_P g.1 cl_X (mo_V g 0 ks kc rn' oc' hd2 (nI b) se bd bs dk dp ct bo wi sh lf lc mo ah) H → va_S (mo_fr g) s.heap H locs → W p l e (headSpec (wd yM_best bM_best 10 (some .long)) (rmD 4 0 0)).room s m ([.ref (g.2.2 0), .long x]).toArray below meth c H locs 0 0 (MQ below (mm_Q g (fun v9 S9 => v9 = some (.long (if k_isHand x = 0 then 0 else k_bst x)) ∧ ∃ (rn' : Nat → Int32) (oc' : Nat → Int32) (hd' : Nat → Int32) (hs' : Int32), S9 = ((if k_isHand x = 0 then 1 else 0), ks, kc, rn', oc', hd', hs', se, bd, bs, dk, dp, ct, bo, wi, sh, lf, lc, mo, ah))) ([.ref (g.2.2 0), .long x]).toArray s 0 0 (mo_fr g)) (F0 m 136 ls [])) → W p l e (headSpec (wd yM_best bM_best 10 (some .long)) (rmD 4 0 0)).room s m ([.ref (g.2.2 0), .long x]).toArray below meth c H locs 0 0 (MQ below (mm_Q g (fun v9 S9 => v9 = some (.long (if k_isHand x = 0 then 0 else k_bst x)) ∧ ∃ (rn' : Nat → Int32) (oc' : Nat → Int32) (hd' : Nat → Int32) (hs' : Int32), S9 = ((if k_isHand x = 0 then 1 else 0), ks, kc, rn', oc', hd', hs', se, bd, bs, dk, dp, ct, bo, wi, sh, lf, lc, mo, ah))) ([.ref (g.2.2 0), .long x]).toArray s 0 0 (mo_fr g)) (F0 m 41 ls []) := by
      intro n
      induction n with
      | zero =>
        intro z  wrn9 woc9 H locs ls hl hP hSS hn K
        refine lv_iload hx hb dM_best_41 (lv_at hl 0 rfl) ?_
        refine lv_iconst (v := 1) hx hb dM_best_43 (by decide) ?_
        refine lv_aload_n hx hb dM_best_44 rfl (lv_at hl 3 rfl) ?_
        refine va_get (D := g.1) (ci := 1) (v := .int (nI b)) (C := "HandTablesModel") (T := T_M) (N := 20) hx hb hts (fun w hw => wd_in (u_inM w hw)) hown hK hP 0 rfl rfl 6 (by decide) (hts _ (wd_in (gw_mem 463 rfl rfl))) (fun _ h => h) rfl dM_best_45 ?_
        refine jv_ishl hx hb dM_best_48 ?_
        refine lv_icmp_ge (tgt := 136) hx hb dM_best_49 (by decide) (fun hc10 => ?_) (fun hc10 => ?_)
        · have hlB := lv_sub hl [1] rfl
          have hPB := hP
          have hSB := hSS
          simp only [kx_lp] at K
          exact K _ _ _ _ _ hlB hPB hSB 
        · exact absurd (show jli 1 (nI b) ≤ nI (2 ^ b) by rw [k_pow b (by omega)]; exact Int32.le_refl _) hc10
      | succ n ih =>
        intro z  wrn9 woc9 H locs ls hl hP hSS hn K
        refine lv_iload hx hb dM_best_41 (lv_at hl 0 rfl) ?_
        refine lv_iconst (v := 1) hx hb dM_best_43 (by decide) ?_
        refine lv_aload_n hx hb dM_best_44 rfl (lv_at hl 3 rfl) ?_
        refine va_get (D := g.1) (ci := 1) (v := .int (nI b)) (C := "HandTablesModel") (T := T_M) (N := 20) hx hb hts (fun w hw => wd_in (u_inM w hw)) hown hK hP 0 rfl rfl 6 (by decide) (hts _ (wd_in (gw_mem 463 rfl rfl))) (fun _ h => h) rfl dM_best_45 ?_
        refine jv_ishl hx hb dM_best_48 ?_
        refine lv_icmp_ge (tgt := 136) hx hb dM_best_49 (by decide) (fun hc11 => ?_) (fun hc11 => ?_)
        · exact absurd hc11 (by rw [k_pow b (by omega)]; exact nI_ge (by have := k_pow_le b (by omega); omega) (by have := k_pow_le b (by omega); omega))
        · refine lv_aload_n hx hb dM_best_52 rfl (lv_at hl 3 rfl) ?_
          refine lv_iload hx hb dM_best_53 (lv_at hl 0 rfl) ?_
          refine mm_V (cM_keyOfSome l g 0 ks kc wrn9 woc9 hd2 b se bd bs dk dp ct bo wi sh lf lc mo ah (nI (2 ^ b - (n + 1))) hap hb7 hh) rfl kM_M_keyOfSome hS hK hP ⟨Nat.le_of_ble_eq_true rfl, Nat.le_of_ble_eq_true rfl⟩ hl.1 rfl (Nat.le_of_ble_eq_true rfl) ⟨Nat.zero_le _, Nat.zero_le _⟩ dM_best_55 hSS (fun v9 S9 H locs hR hP hSS => ?_)
          obtain ⟨rfl, rn12, oc13, rfl⟩ := hR
          have hP : va_P g.1 cl_X (mo_V g 0 ks kc rn12 oc13 hd2 (nI b) se bd bs dk dp ct bo wi sh lf lc mo ah) H := hP
          refine lv_iload_n hx hb dM_best_58 rfl (lv_at hl 2 rfl) ?_
          refine lv_icmp_ne (tgt := 130) hx hb dM_best_59 (by decide) (fun hc14 => ?_) (fun hc14 => ?_)
          · refine jv_iinc (a := 1) hx hb dM_best_130 hl (k := 0) rfl (by decide) (by decide) (fun x15 ex15 ls hl => ?_)
            have hl : lv_has ls 10 [(6, .int x15), (4, .long z), (3, .int x6), (0, .ref (g.2.2 0))] := hl
            refine lv_goto (tgt := 41) hx hb dM_best_133 (by decide) ?_
            rw [nI_up (by omega)] at ex15
            have hlB := lv_sub hl [0, 1, 2, 3] rfl
            have hPB := hP
            have hSB := hSS
            subst ex15
            simp only [kx_lp, if_neg hc14] at K
            exact ih _  _ _ _ _ _ hlB hPB hSB (by omega) K
          · refine lv_lconst (v := 0) hx hb dM_best_62 (by decide) ?_
            refine jt_topl (fun x16 ex16 => ?_)
            refine lv_lstore (lv' := [(7, .long x16), (6, .int (nI (2 ^ b - (n + 1)))), (4, .long z), (3, .int x6), (0, .ref (g.2.2 0))]) hx hb dM_best_63 hl (by decide) rfl (fun ls hl => ?_)
            refine lv_iconst (v := 0) hx hb dM_best_65 (by decide) ?_
            refine jt_topi (fun x17 ex17 => ?_)
            refine lv_istore (lv' := [(9, .int x17), (7, .long x16), (6, .int (nI (2 ^ b - (n + 1)))), (4, .long z), (3, .int x6), (0, .ref (g.2.2 0))]) hx hb dM_best_66 hl (by decide) rfl (fun ls hl => ?_)
            have hloop : ∀ (j : Nat) (w : Int64)   (H : Heap) (locs : List Loc) (ls : Array Slot), lv_has ls 10 [(9, .int (nI (b - j))), (7, .long w), (6, .int (nI (2 ^ b - (n + 1)))), (4, .long z), (3, .int x6), (0, .ref (g.2.2 0))] → va_P g.1 cl_X (mo_V g 0 ks kc rn12 oc13 hd2 (nI b) se bd bs dk dp ct bo wi sh lf lc mo ah) H → va_S (mo_fr g) s.heap H locs → (j ≤ b) → (∀  (H : Heap) (locs : List Loc) (ls : Array Slot), lv_has ls 10 [(7, .long (kx_set hd2 b (nI (2 ^ b - (n + 1))) j w)), (6, .int (nI (2 ^ b - (n + 1)))), (4, .long z), (3, .int x6), (0, .ref (g.2.2 0))] → va_P g.1 cl_X (mo_V g 0 ks kc rn12 oc13 hd2 (nI b) se bd bs dk dp ct bo wi sh lf lc mo ah) H → va_S (mo_fr g) s.heap H locs → W p l e (headSpec (wd yM_best bM_best 10 (some .long)) (rmD 4 0 0)).room s m ([.ref (g.2.2 0), .long x]).toArray below meth c H locs 0 0 (MQ below (mm_Q g (fun v9 S9 => v9 = some (.long (if k_isHand x = 0 then 0 else k_bst x)) ∧ ∃ (rn' : Nat → Int32) (oc' : Nat → Int32) (hd' : Nat → Int32) (hs' : Int32), S9 = ((if k_isHand x = 0 then 1 else 0), ks, kc, rn', oc', hd', hs', se, bd, bs, dk, dp, ct, bo, wi, sh, lf, lc, mo, ah))) ([.ref (g.2.2 0), .long x]).toArray s 0 0 (mo_fr g)) (F0 m 113 ls [])) → W p l e (headSpec (wd yM_best bM_best 10 (some .long)) (rmD 4 0 0)).room s m ([.ref (g.2.2 0), .long x]).toArray below meth c H locs 0 0 (MQ below (mm_Q g (fun v9 S9 => v9 = some (.long (if k_isHand x = 0 then 0 else k_bst x)) ∧ ∃ (rn' : Nat → Int32) (oc' : Nat → Int32) (hd' : Nat → Int32) (hs' : Int32), S9 = ((if k_isHand x = 0 then 1 else 0), ks, kc, rn', oc', hd', hs', se, bd, bs, dk, dp, ct, bo, wi, sh, lf, lc, mo, ah))) ([.ref (g.2.2 0), .long x]).toArray s 0 0 (mo_fr g)) (F0 m 68 ls []) := by
              intro j
              induction j with
              | zero =>
                intro w   H locs ls hl hP hSS hj K
                refine lv_iload hx hb dM_best_68 (lv_at hl 0 rfl) ?_
                refine lv_aload_n hx hb dM_best_70 rfl (lv_at hl 5 rfl) ?_
                refine va_get (D := g.1) (ci := 1) (v := .int (nI b)) (C := "HandTablesModel") (T := T_M) (N := 20) hx hb hts (fun w hw => wd_in (u_inM w hw)) hown hK hP 0 rfl rfl 6 (by decide) (hts _ (wd_in (gw_mem 463 rfl rfl))) (fun _ h => h) rfl dM_best_71 ?_
                refine lv_icmp_ge (tgt := 113) hx hb dM_best_74 (by decide) (fun hc19 => ?_) (fun hc19 => ?_)
                · have hlB := lv_sub hl [1, 2, 3, 4, 5] rfl
                  have hPB := hP
                  have hSB := hSS
                  simp only [kx_set] at K
                  exact K  _ _ _ hlB hPB hSB 
                · exact absurd (show nI b ≤ nI (b - 0) from Int32.le_refl _) hc19
              | succ j ih =>
                intro w   H locs ls hl hP hSS hj K
                refine lv_iload hx hb dM_best_68 (lv_at hl 0 rfl) ?_
                refine lv_aload_n hx hb dM_best_70 rfl (lv_at hl 5 rfl) ?_
                refine va_get (D := g.1) (ci := 1) (v := .int (nI b)) (C := "HandTablesModel") (T := T_M) (N := 20) hx hb hts (fun w hw => wd_in (u_inM w hw)) hown hK hP 0 rfl rfl 6 (by decide) (hts _ (wd_in (gw_mem 463 rfl rfl))) (fun _ h => h) rfl dM_best_71 ?_
                refine lv_icmp_ge (tgt := 113) hx hb dM_best_74 (by decide) (fun hc20 => ?_) (fun hc20 => ?_)
                · exact absurd hc20 (nI_ge (by omega) (by omega))
                · refine lv_iload hx hb dM_best_77 (lv_at hl 2 rfl) ?_
                  refine lv_iload hx hb dM_best_79 (lv_at hl 0 rfl) ?_
                  refine jv_ishr hx hb dM_best_81 ?_
                  refine lv_iconst (v := 1) hx hb dM_best_82 (by decide) ?_
                  refine lv_iand hx hb dM_best_83 ?_
                  refine lv_iconst (v := 1) hx hb dM_best_84 (by decide) ?_
                  refine lv_icmp_ne (tgt := 103) hx hb dM_best_85 (by decide) (fun hc21 => ?_) (fun hc21 => ?_)
                  · refine lv_lload hx hb dM_best_103 (lv_at hl 1 rfl) ?_
                    refine jt_topl (fun x22 ex22 => ?_)
                    refine lv_lstore (lv' := [(7, .long x22), (9, .int (nI (b - (j + 1)))), (6, .int (nI (2 ^ b - (n + 1)))), (4, .long z), (3, .int x6), (0, .ref (g.2.2 0))]) hx hb dM_best_105 hl (by decide) rfl (fun ls hl => ?_)
                    refine jv_iinc (a := 1) hx hb dM_best_107 hl (k := 1) rfl (by decide) (by decide) (fun x23 ex23 ls hl => ?_)
                    have hl : lv_has ls 10 [(9, .int x23), (7, .long x22), (6, .int (nI (2 ^ b - (n + 1)))), (4, .long z), (3, .int x6), (0, .ref (g.2.2 0))] := hl
                    refine lv_goto (tgt := 68) hx hb dM_best_110 (by decide) ?_
                    rw [nI_up (by omega)] at ex23
                    have hlB := lv_sub hl [0, 1, 2, 3, 4, 5] rfl
                    have hPB := hP
                    have hSB := hSS
                    subst ex23 ex22
                    simp only [kx_set, if_neg hc21] at K
                    exact ih _   _ _ _ hlB hPB hSB (by omega) K
                  · refine lv_lload hx hb dM_best_88 (lv_at hl 1 rfl) ?_
                    refine lv_lconst (v := 1) hx hb dM_best_90 (by decide) ?_
                    refine lv_aload_n hx hb dM_best_91 rfl (lv_at hl 5 rfl) ?_
                    refine va_get (D := g.1) (ci := 1) (v := .ref (g.2.2 4)) (C := "HandTablesModel") (T := T_M) (N := 20) hx hb hts (fun w hw => wd_in (u_inM w hw)) hown hK hP 0 rfl rfl 5 (by decide) (hts _ (wd_in (gw_mem 462 rfl rfl))) (fun _ h => h) rfl dM_best_92 ?_
                    refine lv_iload hx hb dM_best_95 (lv_at hl 0 rfl) ?_
                    refine va_iald hx hb hK hP 4 0 rfl rfl (vp_in_nI (by omega) (by omega)) dM_best_97 ?_
                    refine jv_lshl hx hb dM_best_98 ?_
                    refine lv_lor hx hb dM_best_99 ?_
                    refine lv_goto (tgt := 105) hx hb dM_best_100 (by decide) ?_
                    refine jt_topl (fun x24 ex24 => ?_)
                    refine lv_lstore (lv' := [(7, .long x24), (9, .int (nI (b - (j + 1)))), (6, .int (nI (2 ^ b - (n + 1)))), (4, .long z), (3, .int x6), (0, .ref (g.2.2 0))]) hx hb dM_best_105 hl (by decide) rfl (fun ls hl => ?_)
                    refine jv_iinc (a := 1) hx hb dM_best_107 hl (k := 1) rfl (by decide) (by decide) (fun x25 ex25 ls hl => ?_)
                    have hl : lv_has ls 10 [(9, .int x25), (7, .long x24), (6, .int (nI (2 ^ b - (n + 1)))), (4, .long z), (3, .int x6), (0, .ref (g.2.2 0))] := hl
                    refine lv_goto (tgt := 68) hx hb dM_best_110 (by decide) ?_
                    rw [nI_up (by omega)] at ex25
                    have hlB := lv_sub hl [0, 1, 2, 3, 4, 5] rfl
                    have hPB := hP
                    have hSB := hSS
                    subst ex25 ex24
                    simp only [kx_set, if_pos hc21] at K
                    exact ih _   _ _ _ hlB hPB hSB (by omega) K
            refine hloop b x16   _ _ ls (by have h9 := lv_sub hl [0, 1, 2, 3, 4, 5] rfl; subst ex17; rw [Nat.sub_self]; exact h9) hP hSS (Nat.le_refl _) (fun  H locs ls hl hP hSS  => ?_)
            clear hloop
            obtain ⟨y26, ey26⟩ : ∃ z, (kx_set hd2 b (nI (2 ^ b - (n + 1))) b x16) = z := ⟨_, rfl⟩
            rw [ey26] at hl
            refine lv_lload hx hb dM_best_113 (lv_at hl 0 rfl) ?_
            refine lv_lload hx hb dM_best_115 (lv_at hl 2 rfl) ?_
            refine jv_lcle (tgt := 126) hx hb dM_best_117 dM_best_118 (by decide) (fun hc27 => ?_) (fun hc27 => ?_)
            · refine lv_lload hx hb dM_best_126 (lv_at hl 2 rfl) ?_
              refine jt_topl (fun x28 ex28 => ?_)
              refine lv_lstore (lv' := [(4, .long x28), (7, .long y26), (6, .int (nI (2 ^ b - (n + 1)))), (3, .int x6), (0, .ref (g.2.2 0))]) hx hb dM_best_128 hl (by decide) rfl (fun ls hl => ?_)
              refine jv_iinc (a := 1) hx hb dM_best_130 hl (k := 2) rfl (by decide) (by decide) (fun x29 ex29 ls hl => ?_)
              have hl : lv_has ls 10 [(6, .int x29), (4, .long x28), (7, .long y26), (3, .int x6), (0, .ref (g.2.2 0))] := hl
              refine lv_goto (tgt := 41) hx hb dM_best_133 (by decide) ?_
              rw [nI_up (by omega)] at ex29
              have hlB := lv_sub hl [0, 1, 3, 4] rfl
              have hPB := hP
              have hSB := hSS
              subst ex29 ex28 ey26 ex17 ex16
              simp only [kx_lp, if_pos hc14, if_pos hc27] at K
              exact ih _  _ _ _ _ _ hlB hPB hSB (by omega) K
            · refine lv_lload hx hb dM_best_121 (lv_at hl 0 rfl) ?_
              refine lv_goto (tgt := 128) hx hb dM_best_123 (by decide) ?_
              refine jt_topl (fun x30 ex30 => ?_)
              refine lv_lstore (lv' := [(4, .long x30), (7, .long y26), (6, .int (nI (2 ^ b - (n + 1)))), (3, .int x6), (0, .ref (g.2.2 0))]) hx hb dM_best_128 hl (by decide) rfl (fun ls hl => ?_)
              refine jv_iinc (a := 1) hx hb dM_best_130 hl (k := 2) rfl (by decide) (by decide) (fun x31 ex31 ls hl => ?_)
              have hl : lv_has ls 10 [(6, .int x31), (4, .long x30), (7, .long y26), (3, .int x6), (0, .ref (g.2.2 0))] := hl
              refine lv_goto (tgt := 41) hx hb dM_best_133 (by decide) ?_
              rw [nI_up (by omega)] at ex31
              have hlB := lv_sub hl [0, 1, 3, 4] rfl
              have hPB := hP
              have hSB := hSS
              subst ex31 ex30 ey26 ex17 ex16
              simp only [kx_lp, if_pos hc14, if_neg hc27] at K
              exact ih _  _ _ _ _ _ hlB hPB hSB (by omega) K
    refine hloop (2 ^ b) x7  rn4 oc5 _ _ ls (by have h9 := lv_sub hl [0, 1, 2, 3] rfl; subst ex8; rw [Nat.sub_self]; exact h9) hP hSS (Nat.le_refl _) (fun rn32 oc33 H locs ls hl hP hSS  => ?_)
    clear hloop
    obtain ⟨y34, ey34⟩ : ∃ z, (kx_lp hd2 b x6 (2 ^ b) x7) = z := ⟨_, rfl⟩
    rw [ey34] at hl
    refine lv_lload hx hb dM_best_136 (lv_at hl 0 rfl) ?_
    exact mm_lret (S := (0, ks, kc, rn32, oc33, hd2, (nI b), se, bd, bs, dk, dp, ct, bo, wi, sh, lf, lc, mo, ah)) hx hb hr hlk dM_best_138 hP hSS (by exact ⟨by subst ey34 ex8 ex7 ex6; subst eb; subst eh; rw [if_neg hc1, k_bk_any hd h7, k_bst_any hd h7], rn32, oc33, hd2, (nI b), by rw [if_neg hc1]⟩)
set_option maxHeartbeats 4000000 in
set_option maxRecDepth 100000 in
theorem cM_worth (l : Launch) (g : mo_E) (th : Int32) (ks : Nat → Int32) (kc : Int32) (rn : Nat → Int32) (oc : Nat → Int32) (hd : Nat → Int32) (hs : Int32) (se : Nat → Int32) (bd : Nat → Int32) (bs : Int32) (dk : Nat → Int32) (dp : Int32) (ct : Int32) (bo : Int32) (wi : Nat → Int32) (sh : Nat → Int32) (lf : Nat → Int32) (lc : Int32) (mo : Int32) (ah : Int32) (v : Int32)  (hap : mo_ap g)  : mm_M l yM_worth bM_worth 8 (some .int) 1 [.ref (g.2.2 0), .int v] g (th, ks, kc, rn, oc, hd, hs, se, bd, bs, dk, dp, ct, bo, wi, sh, lf, lc, mo, ah) (fun v9 S9 => v9 = some (.int (if v < 0 then 0 else if v < 7462 then k_worth (ks v.toNatClampNeg) else 0)) ∧ S9 = ((if v < 0 then 1 else if v < 7462 then 0 else 1), ks, kc, rn, oc, hd, hs, se, bd, bs, dk, dp, ct, bo, wi, sh, lf, lc, mo, ah)) := by
  refine Met.ofW (cc := bM_worth) (maxL := 8) (ret := (some .int)) (by decide) rfl ?_
  intro p e s m args below meth c s₁ BB hml hv
  obtain ⟨rfl, hB⟩ := hv
  have hx := BB.exec
  have hb := BB.bytes
  have hr := BB.returns
  have hlk := BB.notSynchronized
  have hts := atoms_spec (ws := wd yM_worth bM_worth 8 (some .int)) BB.pre
  have hown : s.vm.findClass "HandTablesModel" = some m.cls := findClass_of_methodNamed BB.named
  have hS : CallFix p m c bM_worth 8 s _ (wd yM_worth bM_worth 8 (some .int)) "HandTablesModel" := ⟨hx, hb, hml, hown, hts⟩
  obtain ⟨hP, hK⟩ := hB
  have hP : va_P g.1 cl_X (mo_V g th ks kc rn oc hd hs se bd bs dk dp ct bo wi sh lf lc mo ah) s.heap := hP
  have hSS : va_S (mo_fr g) s.heap s.heap [] := va_S.rf
  have hl := lv_entry ([.ref (g.2.2 0), .int v]) (n := 8) (Nat.le_of_ble_eq_true rfl)
  rw [lg_entry_eq]
  generalize (lg_sl ([.ref (g.2.2 0), .int v]) ++ List.replicate (8 - (lg_sl ([.ref (g.2.2 0), .int v])).length) Slot.unset).toArray = ls at hl ⊢
  have hl : lv_has ls 8 [(0, .ref (g.2.2 0)), (1, .int v)] := hl
  obtain ⟨H, eH⟩ : ∃ H, s.heap = H := ⟨_, rfl⟩
  obtain ⟨locs, eL⟩ : ∃ L, ([] : List Loc) = L := ⟨_, rfl⟩
  have hP : va_P g.1 cl_X (mo_V g th ks kc rn oc hd hs se bd bs dk dp ct bo wi sh lf lc mo ah) H := by rw [← eH]; exact hP
  have hSS : va_S (mo_fr g) s.heap H locs := by rw [← eH, ← eL]; exact hSS
  refine mm_go eH eL ?_
  clear eH eL
  refine lv_aload_n hx hb dM_worth_0 rfl (lv_at hl 0 rfl) ?_
  refine lv_iload_n hx hb dM_worth_1 rfl (lv_at hl 1 rfl) ?_
  refine lv_if_lt (tgt := 12) hx hb dM_worth_2 (by decide) (fun hc1 => ?_) (fun hc1 => ?_)
  · refine lv_iconst (v := 1) hx hb dM_worth_12 (by decide) ?_
    refine lv_goto (tgt := 17) hx hb dM_worth_13 (by decide) ?_
    refine va_put (D := g.1) (ci := 1) (v := .int 1) (ty := .int) (C := "HandTablesModel") (T := T_M) (N := 20) hx hb hts (fun w hw => wd_in (u_inM w hw)) tf_M tf_M_ok n_M hown hK hP (mo_D hap) hSS 0 rfl rfl 0 (by decide) (hts _ (wd_in (gw_mem 457 rfl rfl))) (fun _ h => h) rfl (by decide +kernel) rfl rfl (Nat.le_of_ble_eq_true rfl) dM_worth_17 (fun H locs hP _ hSS => ?_)
    have hP : va_P g.1 cl_X (mo_V g 1 ks kc rn oc hd hs se bd bs dk dp ct bo wi sh lf lc mo ah) H := hP
    refine lv_aload_n hx hb dM_worth_20 rfl (lv_at hl 0 rfl) ?_
    refine va_get (D := g.1) (ci := 1) (v := .int 1) (C := "HandTablesModel") (T := T_M) (N := 20) hx hb hts (fun w hw => wd_in (u_inM w hw)) hown hK hP 0 rfl rfl 0 (by decide) (hts _ (wd_in (gw_mem 457 rfl rfl))) (fun _ h => h) rfl dM_worth_21 ?_
    refine lv_if_le (tgt := 29) hx hb dM_worth_24 (by decide) (fun hc2 => ?_) (fun hc2 => ?_)
    · first | exact absurd hc2 (by decide) | exact absurd (by decide) hc2
    refine lv_iconst (v := 0) hx hb dM_worth_27 (by decide) ?_
    exact mm_iret (S := (1, ks, kc, rn, oc, hd, hs, se, bd, bs, dk, dp, ct, bo, wi, sh, lf, lc, mo, ah)) hx hb hr hlk dM_worth_28 hP hSS (by exact ⟨by (try simp only [if_pos hc1]) <;> rfl, by (try simp only [if_pos hc1]) <;> rfl⟩)
  · refine lv_iload_n hx hb dM_worth_5 rfl (lv_at hl 1 rfl) ?_
    refine lv_sipush (v := 7462) hx hb dM_worth_6 (by decide) ?_
    refine lv_icmp_lt (tgt := 16) hx hb dM_worth_9 (by decide) (fun hc3 => ?_) (fun hc3 => ?_)
    · refine lv_iconst (v := 0) hx hb dM_worth_16 (by decide) ?_
      refine va_put (D := g.1) (ci := 1) (v := .int 0) (ty := .int) (C := "HandTablesModel") (T := T_M) (N := 20) hx hb hts (fun w hw => wd_in (u_inM w hw)) tf_M tf_M_ok n_M hown hK hP (mo_D hap) hSS 0 rfl rfl 0 (by decide) (hts _ (wd_in (gw_mem 457 rfl rfl))) (fun _ h => h) rfl (by decide +kernel) rfl rfl (Nat.le_of_ble_eq_true rfl) dM_worth_17 (fun H locs hP _ hSS => ?_)
      have hP : va_P g.1 cl_X (mo_V g 0 ks kc rn oc hd hs se bd bs dk dp ct bo wi sh lf lc mo ah) H := hP
      refine lv_aload_n hx hb dM_worth_20 rfl (lv_at hl 0 rfl) ?_
      refine va_get (D := g.1) (ci := 1) (v := .int 0) (C := "HandTablesModel") (T := T_M) (N := 20) hx hb hts (fun w hw => wd_in (u_inM w hw)) hown hK hP 0 rfl rfl 0 (by decide) (hts _ (wd_in (gw_mem 457 rfl rfl))) (fun _ h => h) rfl dM_worth_21 ?_
      refine lv_if_le (tgt := 29) hx hb dM_worth_24 (by decide) (fun hc4 => ?_) (fun hc4 => ?_)
      rotate_left
      · first | exact absurd hc4 (by decide) | exact absurd (by decide) hc4
      refine lv_aload_n hx hb dM_worth_29 rfl (lv_at hl 0 rfl) ?_
      refine va_get (D := g.1) (ci := 1) (v := .ref (g.2.2 1)) (C := "HandTablesModel") (T := T_M) (N := 20) hx hb hts (fun w hw => wd_in (u_inM w hw)) hown hK hP 0 rfl rfl 1 (by decide) (hts _ (wd_in (gw_mem 458 rfl rfl))) (fun _ h => h) rfl dM_worth_30 ?_
      refine lv_iload_n hx hb dM_worth_33 rfl (lv_at hl 1 rfl) ?_
      refine va_iald hx hb hK hP 1 0 rfl rfl (k_vin hc1 hc3) dM_worth_34 ?_
      refine lv_ldc (v := 371293) hx hb hown (hts _ (wd_in (gw_mem 444 rfl rfl))) dM_worth_35 ?_
      refine lv_idiv hx hb dM_worth_37 (by decide) ?_
      refine jt_topi (fun x5 ex5 => ?_)
      refine lv_istore_n (lv' := [(2, .int x5), (0, .ref (g.2.2 0)), (1, .int v)]) hx hb dM_worth_38 rfl hl (by decide) rfl (fun ls hl => ?_)
      refine lv_aload_n hx hb dM_worth_39 rfl (lv_at hl 1 rfl) ?_
      refine va_get (D := g.1) (ci := 1) (v := .ref (g.2.2 1)) (C := "HandTablesModel") (T := T_M) (N := 20) hx hb hts (fun w hw => wd_in (u_inM w hw)) hown hK hP 0 rfl rfl 1 (by decide) (hts _ (wd_in (gw_mem 458 rfl rfl))) (fun _ h => h) rfl dM_worth_40 ?_
      refine lv_iload_n hx hb dM_worth_43 rfl (lv_at hl 2 rfl) ?_
      refine va_iald hx hb hK hP 1 0 rfl rfl (k_vin hc1 hc3) dM_worth_44 ?_
      refine lv_ldc (v := 371293) hx hb hown (hts _ (wd_in (gw_mem 444 rfl rfl))) dM_worth_45 ?_
      refine jv_irem hx hb dM_worth_47 (by decide) ?_
      refine jt_topi (fun x6 ex6 => ?_)
      refine lv_istore_n (lv' := [(3, .int x6), (2, .int x5), (0, .ref (g.2.2 0)), (1, .int v)]) hx hb dM_worth_48 rfl hl (by decide) rfl (fun ls hl => ?_)
      refine lv_sipush (v := 28561) hx hb dM_worth_49 (by decide) ?_
      refine jt_topi (fun x7 ex7 => ?_)
      refine lv_istore (lv' := [(4, .int x7), (3, .int x6), (2, .int x5), (0, .ref (g.2.2 0)), (1, .int v)]) hx hb dM_worth_52 hl (by decide) rfl (fun ls hl => ?_)
      refine lv_iload_n hx hb dM_worth_54 rfl (lv_at hl 2 rfl) ?_
      refine jt_topi (fun x8 ex8 => ?_)
      refine lv_istore (lv' := [(5, .int x8), (4, .int x7), (3, .int x6), (2, .int x5), (0, .ref (g.2.2 0)), (1, .int v)]) hx hb dM_worth_55 hl (by decide) rfl (fun ls hl => ?_)
      refine lv_bipush (v := 16) hx hb dM_worth_57 (by decide) ?_
      refine jt_topi (fun x9 ex9 => ?_)
      refine lv_istore (lv' := [(6, .int x9), (5, .int x8), (4, .int x7), (3, .int x6), (2, .int x5), (0, .ref (g.2.2 0)), (1, .int v)]) hx hb dM_worth_59 hl (by decide) rfl (fun ls hl => ?_)
      obtain ⟨r, hr5, hrs⟩ := k_rs x5
      refine lv_iconst (v := 0) hx hb dM_worth_61 (by decide) ?_
      refine jt_topi (fun x10 ex10 => ?_)
      refine lv_istore (lv' := [(7, .int x10), (6, .int x9), (5, .int x8), (4, .int x7), (3, .int x6), (2, .int x5), (0, .ref (g.2.2 0)), (1, .int v)]) hx hb dM_worth_62 hl (by decide) rfl (fun ls hl => ?_)
      have hloop : ∀ (n : Nat) (w : Int32) (a : Int32) (y : Int32)   (H : Heap) (locs : List Loc) (ls : Array Slot), lv_has ls 8 [(7, .int (nI (r - n))), (4, .int w), (5, .int a), (6, .int y), (3, .int x6), (2, .int x5), (0, .ref (g.2.2 0))] → va_P g.1 cl_X (mo_V g 0 ks kc rn oc hd hs se bd bs dk dp ct bo wi sh lf lc mo ah) H → va_S (mo_fr g) s.heap H locs → (n ≤ r) → (n = 0 ∨ w = nI (13 ^ (4 - (r - n)))) → (∀  (H : Heap) (locs : List Loc) (ls : Array Slot), lv_has ls 8 [(5, .int (kv_lp x6 n w a y))] → va_P g.1 cl_X (mo_V g 0 ks kc rn oc hd hs se bd bs dk dp ct bo wi sh lf lc mo ah) H → va_S (mo_fr g) s.heap H locs → W p l e (headSpec (wd yM_worth bM_worth 8 (some .int)) (rmD 1 0 0)).room s m ([.ref (g.2.2 0), .int v]).toArray below meth c H locs 0 0 (MQ below (mm_Q g (fun v9 S9 => v9 = some (.int (if v < 0 then 0 else if v < 7462 then k_worth (ks v.toNatClampNeg) else 0)) ∧ S9 = ((if v < 0 then 1 else if v < 7462 then 0 else 1), ks, kc, rn, oc, hd, hs, se, bd, bs, dk, dp, ct, bo, wi, sh, lf, lc, mo, ah))) ([.ref (g.2.2 0), .int v]).toArray s 0 0 (mo_fr g)) (F0 m 110 ls [])) → W p l e (headSpec (wd yM_worth bM_worth 8 (some .int)) (rmD 1 0 0)).room s m ([.ref (g.2.2 0), .int v]).toArray below meth c H locs 0 0 (MQ below (mm_Q g (fun v9 S9 => v9 = some (.int (if v < 0 then 0 else if v < 7462 then k_worth (ks v.toNatClampNeg) else 0)) ∧ S9 = ((if v < 0 then 1 else if v < 7462 then 0 else 1), ks, kc, rn, oc, hd, hs, se, bd, bs, dk, dp, ct, bo, wi, sh, lf, lc, mo, ah))) ([.ref (g.2.2 0), .int v]).toArray s 0 0 (mo_fr g)) (F0 m 64 ls []) := by
        intro n
        induction n with
        | zero =>
          intro w a y   H locs ls hl hP hSS hn hw K
          refine lv_iload hx hb dM_worth_64 (lv_at hl 0 rfl) ?_
          refine lv_iload_n hx hb dM_worth_66 rfl (lv_at hl 5 rfl) ?_
          refine pu_SH (cM_rowSize l _) rfl kM_M_rowSize hS ⟨Nat.le_of_ble_eq_true rfl, Nat.le_of_ble_eq_true rfl⟩ hl.1 rfl (Nat.le_of_ble_eq_true rfl) ⟨Nat.zero_le _, Nat.zero_le _⟩ dM_worth_67 ?_
          refine lv_icmp_ge (tgt := 110) hx hb dM_worth_70 (by decide) (fun hc12 => ?_) (fun hc12 => ?_)
          · have hlB := lv_sub hl [2] rfl
            have hPB := hP
            have hSB := hSS
            simp only [kv_lp] at K
            exact K  _ _ _ hlB hPB hSB 
          · exact absurd (by rw [hrs]; exact Int32.le_refl _) hc12
        | succ n ih =>
          intro w a y   H locs ls hl hP hSS hn hw K
          have hw : w = nI (13 ^ (4 - (r - (n + 1)))) := by rcases hw with h | h; exact absurd h (by omega); exact h
          refine lv_iload hx hb dM_worth_64 (lv_at hl 0 rfl) ?_
          refine lv_iload_n hx hb dM_worth_66 rfl (lv_at hl 5 rfl) ?_
          refine pu_SH (cM_rowSize l _) rfl kM_M_rowSize hS ⟨Nat.le_of_ble_eq_true rfl, Nat.le_of_ble_eq_true rfl⟩ hl.1 rfl (Nat.le_of_ble_eq_true rfl) ⟨Nat.zero_le _, Nat.zero_le _⟩ dM_worth_67 ?_
          refine lv_icmp_ge (tgt := 110) hx hb dM_worth_70 (by decide) (fun hc13 => ?_) (fun hc13 => ?_)
          · exact absurd hc13 (by rw [hrs]; exact nI_ge (by omega) (by omega))
          · refine lv_iload hx hb dM_worth_73 (lv_at hl 2 rfl) ?_
            refine lv_iload hx hb dM_worth_75 (lv_at hl 3 rfl) ?_
            refine lv_iload_n hx hb dM_worth_77 rfl (lv_at hl 4 rfl) ?_
            refine lv_iload hx hb dM_worth_78 (lv_at hl 1 rfl) ?_
            refine lv_idiv hx hb dM_worth_80 (by rw [hw]; exact k_un _ (by omega)) ?_
            refine lv_bipush (v := 13) hx hb dM_worth_81 (by decide) ?_
            refine jv_irem hx hb dM_worth_83 (by decide) ?_
            refine lv_iconst (v := 1) hx hb dM_worth_84 (by decide) ?_
            refine lv_iadd hx hb dM_worth_85 ?_
            refine lv_imul hx hb dM_worth_86 ?_
            refine lv_iadd hx hb dM_worth_87 ?_
            refine jt_topi (fun x14 ex14 => ?_)
            refine lv_istore (lv' := [(5, .int x14), (7, .int (nI (r - (n + 1)))), (4, .int w), (6, .int y), (3, .int x6), (2, .int x5), (0, .ref (g.2.2 0))]) hx hb dM_worth_88 hl (by decide) rfl (fun ls hl => ?_)
            refine lv_iload hx hb dM_worth_90 (lv_at hl 2 rfl) ?_
            refine lv_bipush (v := 13) hx hb dM_worth_92 (by decide) ?_
            refine lv_idiv hx hb dM_worth_94 (by decide) ?_
            refine jt_topi (fun x15 ex15 => ?_)
            refine lv_istore (lv' := [(4, .int x15), (5, .int x14), (7, .int (nI (r - (n + 1)))), (6, .int y), (3, .int x6), (2, .int x5), (0, .ref (g.2.2 0))]) hx hb dM_worth_95 hl (by decide) rfl (fun ls hl => ?_)
            refine lv_iload hx hb dM_worth_97 (lv_at hl 3 rfl) ?_
            refine lv_bipush (v := 16) hx hb dM_worth_99 (by decide) ?_
            refine lv_imul hx hb dM_worth_101 ?_
            refine jt_topi (fun x16 ex16 => ?_)
            refine lv_istore (lv' := [(6, .int x16), (4, .int x15), (5, .int x14), (7, .int (nI (r - (n + 1)))), (3, .int x6), (2, .int x5), (0, .ref (g.2.2 0))]) hx hb dM_worth_102 hl (by decide) rfl (fun ls hl => ?_)
            refine jv_iinc (a := 1) hx hb dM_worth_104 hl (k := 3) rfl (by decide) (by decide) (fun x17 ex17 ls hl => ?_)
            have hl : lv_has ls 8 [(7, .int x17), (6, .int x16), (4, .int x15), (5, .int x14), (3, .int x6), (2, .int x5), (0, .ref (g.2.2 0))] := hl
            refine lv_goto (tgt := 64) hx hb dM_worth_107 (by decide) ?_
            rw [nI_up (by omega)] at ex17
            have hlB := lv_sub hl [0, 2, 3, 1, 4, 5, 6] rfl
            have hPB := hP
            have hSB := hSS
            subst ex17 ex16 ex15 ex14
            simp only [kv_lp] at K
            exact ih _ _ _   _ _ _ hlB hPB hSB (by omega) (k_us hr5 (by omega) hw) K
      refine hloop r x7 x8 x9   _ _ ls (by have h9 := lv_sub hl [0, 3, 2, 1, 4, 5, 6] rfl; subst ex10; rw [Nat.sub_self]; exact h9) hP hSS (Nat.le_refl _) (by subst_vars; rw [Nat.sub_self]; exact Or.inr rfl) (fun  H locs ls hl hP hSS  => ?_)
      clear hloop
      obtain ⟨y18, ey18⟩ : ∃ z, (kv_lp x6 r x7 x8 x9) = z := ⟨_, rfl⟩
      rw [ey18] at hl
      refine lv_iload hx hb dM_worth_110 (lv_at hl 0 rfl) ?_
      exact mm_iret (S := (0, ks, kc, rn, oc, hd, hs, se, bd, bs, dk, dp, ct, bo, wi, sh, lf, lc, mo, ah)) hx hb hr hlk dM_worth_112 hP hSS (by exact ⟨by subst ey18 ex10 ex9 ex8 ex7 ex6 ex5; (try simp only [if_neg hc1, if_pos hc3, k_worth, hrs, nI_clamp (show r < 2 ^ 31 by omega)]) <;> rfl, by subst ey18 ex10 ex9 ex8 ex7 ex6 ex5; (try simp only [if_neg hc1, if_pos hc3]) <;> rfl⟩)
    · refine lv_iconst (v := 1) hx hb dM_worth_12 (by decide) ?_
      refine lv_goto (tgt := 17) hx hb dM_worth_13 (by decide) ?_
      refine va_put (D := g.1) (ci := 1) (v := .int 1) (ty := .int) (C := "HandTablesModel") (T := T_M) (N := 20) hx hb hts (fun w hw => wd_in (u_inM w hw)) tf_M tf_M_ok n_M hown hK hP (mo_D hap) hSS 0 rfl rfl 0 (by decide) (hts _ (wd_in (gw_mem 457 rfl rfl))) (fun _ h => h) rfl (by decide +kernel) rfl rfl (Nat.le_of_ble_eq_true rfl) dM_worth_17 (fun H locs hP _ hSS => ?_)
      have hP : va_P g.1 cl_X (mo_V g 1 ks kc rn oc hd hs se bd bs dk dp ct bo wi sh lf lc mo ah) H := hP
      refine lv_aload_n hx hb dM_worth_20 rfl (lv_at hl 0 rfl) ?_
      refine va_get (D := g.1) (ci := 1) (v := .int 1) (C := "HandTablesModel") (T := T_M) (N := 20) hx hb hts (fun w hw => wd_in (u_inM w hw)) hown hK hP 0 rfl rfl 0 (by decide) (hts _ (wd_in (gw_mem 457 rfl rfl))) (fun _ h => h) rfl dM_worth_21 ?_
      refine lv_if_le (tgt := 29) hx hb dM_worth_24 (by decide) (fun hc19 => ?_) (fun hc19 => ?_)
      · first | exact absurd hc19 (by decide) | exact absurd (by decide) hc19
      refine lv_iconst (v := 0) hx hb dM_worth_27 (by decide) ?_
      exact mm_iret (S := (1, ks, kc, rn, oc, hd, hs, se, bd, bs, dk, dp, ct, bo, wi, sh, lf, lc, mo, ah)) hx hb hr hlk dM_worth_28 hP hSS (by exact ⟨by (try simp only [if_neg hc1, if_neg hc3]) <;> rfl, by (try simp only [if_neg hc1, if_neg hc3]) <;> rfl⟩)
set_option maxHeartbeats 4000000 in
set_option maxRecDepth 100000 in
theorem cM_sets (l : Launch) (g : mo_E) (th : Int32) (ks : Nat → Int32) (kc : Int32) (rn : Nat → Int32) (oc : Nat → Int32) (hd : Nat → Int32) (hs : Int32) (se : Nat → Int32) (bd : Nat → Int32) (bs : Int32) (dk : Nat → Int32) (dp : Int32) (ct : Int32) (bo : Int32) (wi : Nat → Int32) (sh : Nat → Int32) (lf : Nat → Int32) (lc : Int32) (mo : Int32) (ah : Int32) (v : Int32)  (hap : mo_ap g)  : mm_M l yM_sets bM_sets 3 (some .int) 0 [.ref (g.2.2 0), .int v] g (th, ks, kc, rn, oc, hd, hs, se, bd, bs, dk, dp, ct, bo, wi, sh, lf, lc, mo, ah) (fun v9 S9 => v9 = some (.int (if v < 0 then 0 else if v < 7462 then k_sets (ks v.toNatClampNeg / 371293) else 0)) ∧ S9 = ((if v < 0 then 1 else if v < 7462 then 0 else 1), ks, kc, rn, oc, hd, hs, se, bd, bs, dk, dp, ct, bo, wi, sh, lf, lc, mo, ah)) := by
  refine Met.ofW (cc := bM_sets) (maxL := 3) (ret := (some .int)) (by decide) rfl ?_
  intro p e s m args below meth c s₁ BB hml hv
  obtain ⟨rfl, hB⟩ := hv
  have hx := BB.exec
  have hb := BB.bytes
  have hr := BB.returns
  have hlk := BB.notSynchronized
  have hts := atoms_spec (ws := wd yM_sets bM_sets 3 (some .int)) BB.pre
  have hown : s.vm.findClass "HandTablesModel" = some m.cls := findClass_of_methodNamed BB.named
  have hS : CallFix p m c bM_sets 3 s _ (wd yM_sets bM_sets 3 (some .int)) "HandTablesModel" := ⟨hx, hb, hml, hown, hts⟩
  obtain ⟨hP, hK⟩ := hB
  have hP : va_P g.1 cl_X (mo_V g th ks kc rn oc hd hs se bd bs dk dp ct bo wi sh lf lc mo ah) s.heap := hP
  have hSS : va_S (mo_fr g) s.heap s.heap [] := va_S.rf
  have hl := lv_entry ([.ref (g.2.2 0), .int v]) (n := 3) (Nat.le_of_ble_eq_true rfl)
  rw [lg_entry_eq]
  generalize (lg_sl ([.ref (g.2.2 0), .int v]) ++ List.replicate (3 - (lg_sl ([.ref (g.2.2 0), .int v])).length) Slot.unset).toArray = ls at hl ⊢
  have hl : lv_has ls 3 [(0, .ref (g.2.2 0)), (1, .int v)] := hl
  obtain ⟨H, eH⟩ : ∃ H, s.heap = H := ⟨_, rfl⟩
  obtain ⟨locs, eL⟩ : ∃ L, ([] : List Loc) = L := ⟨_, rfl⟩
  have hP : va_P g.1 cl_X (mo_V g th ks kc rn oc hd hs se bd bs dk dp ct bo wi sh lf lc mo ah) H := by rw [← eH]; exact hP
  have hSS : va_S (mo_fr g) s.heap H locs := by rw [← eH, ← eL]; exact hSS
  refine mm_go eH eL ?_
  clear eH eL
  refine lv_aload_n hx hb dM_sets_0 rfl (lv_at hl 0 rfl) ?_
  refine lv_iload_n hx hb dM_sets_1 rfl (lv_at hl 1 rfl) ?_
  refine lv_if_lt (tgt := 12) hx hb dM_sets_2 (by decide) (fun hc1 => ?_) (fun hc1 => ?_)
  · refine lv_iconst (v := 1) hx hb dM_sets_12 (by decide) ?_
    refine lv_goto (tgt := 17) hx hb dM_sets_13 (by decide) ?_
    refine va_put (D := g.1) (ci := 1) (v := .int 1) (ty := .int) (C := "HandTablesModel") (T := T_M) (N := 20) hx hb hts (fun w hw => wd_in (u_inM w hw)) tf_M tf_M_ok n_M hown hK hP (mo_D hap) hSS 0 rfl rfl 0 (by decide) (hts _ (wd_in (gw_mem 457 rfl rfl))) (fun _ h => h) rfl (by decide +kernel) rfl rfl (Nat.le_of_ble_eq_true rfl) dM_sets_17 (fun H locs hP _ hSS => ?_)
    have hP : va_P g.1 cl_X (mo_V g 1 ks kc rn oc hd hs se bd bs dk dp ct bo wi sh lf lc mo ah) H := hP
    refine lv_aload_n hx hb dM_sets_20 rfl (lv_at hl 0 rfl) ?_
    refine va_get (D := g.1) (ci := 1) (v := .int 1) (C := "HandTablesModel") (T := T_M) (N := 20) hx hb hts (fun w hw => wd_in (u_inM w hw)) hown hK hP 0 rfl rfl 0 (by decide) (hts _ (wd_in (gw_mem 457 rfl rfl))) (fun _ h => h) rfl dM_sets_21 ?_
    refine lv_if_le (tgt := 29) hx hb dM_sets_24 (by decide) (fun hc2 => ?_) (fun hc2 => ?_)
    · first | exact absurd hc2 (by decide) | exact absurd (by decide) hc2
    refine lv_iconst (v := 0) hx hb dM_sets_27 (by decide) ?_
    exact mm_iret (S := (1, ks, kc, rn, oc, hd, hs, se, bd, bs, dk, dp, ct, bo, wi, sh, lf, lc, mo, ah)) hx hb hr hlk dM_sets_28 hP hSS (by exact ⟨by (try simp only [k_sets, if_pos hc1]) <;> rfl, by (try simp only [k_sets, if_pos hc1]) <;> rfl⟩)
  · refine lv_iload_n hx hb dM_sets_5 rfl (lv_at hl 1 rfl) ?_
    refine lv_sipush (v := 7462) hx hb dM_sets_6 (by decide) ?_
    refine lv_icmp_lt (tgt := 16) hx hb dM_sets_9 (by decide) (fun hc3 => ?_) (fun hc3 => ?_)
    · refine lv_iconst (v := 0) hx hb dM_sets_16 (by decide) ?_
      refine va_put (D := g.1) (ci := 1) (v := .int 0) (ty := .int) (C := "HandTablesModel") (T := T_M) (N := 20) hx hb hts (fun w hw => wd_in (u_inM w hw)) tf_M tf_M_ok n_M hown hK hP (mo_D hap) hSS 0 rfl rfl 0 (by decide) (hts _ (wd_in (gw_mem 457 rfl rfl))) (fun _ h => h) rfl (by decide +kernel) rfl rfl (Nat.le_of_ble_eq_true rfl) dM_sets_17 (fun H locs hP _ hSS => ?_)
      have hP : va_P g.1 cl_X (mo_V g 0 ks kc rn oc hd hs se bd bs dk dp ct bo wi sh lf lc mo ah) H := hP
      refine lv_aload_n hx hb dM_sets_20 rfl (lv_at hl 0 rfl) ?_
      refine va_get (D := g.1) (ci := 1) (v := .int 0) (C := "HandTablesModel") (T := T_M) (N := 20) hx hb hts (fun w hw => wd_in (u_inM w hw)) hown hK hP 0 rfl rfl 0 (by decide) (hts _ (wd_in (gw_mem 457 rfl rfl))) (fun _ h => h) rfl dM_sets_21 ?_
      refine lv_if_le (tgt := 29) hx hb dM_sets_24 (by decide) (fun hc4 => ?_) (fun hc4 => ?_)
      rotate_left
      · first | exact absurd hc4 (by decide) | exact absurd (by decide) hc4
      refine lv_aload_n hx hb dM_sets_29 rfl (lv_at hl 0 rfl) ?_
      refine va_get (D := g.1) (ci := 1) (v := .ref (g.2.2 1)) (C := "HandTablesModel") (T := T_M) (N := 20) hx hb hts (fun w hw => wd_in (u_inM w hw)) hown hK hP 0 rfl rfl 1 (by decide) (hts _ (wd_in (gw_mem 458 rfl rfl))) (fun _ h => h) rfl dM_sets_30 ?_
      refine lv_iload_n hx hb dM_sets_33 rfl (lv_at hl 1 rfl) ?_
      refine va_iald hx hb hK hP 1 0 rfl rfl (k_vin hc1 hc3) dM_sets_34 ?_
      refine lv_ldc (v := 371293) hx hb hown (hts _ (wd_in (gw_mem 444 rfl rfl))) dM_sets_35 ?_
      refine lv_idiv hx hb dM_sets_37 (by decide) ?_
      refine jt_topi (fun x5 ex5 => ?_)
      refine lv_istore_n (lv' := [(2, .int x5), (0, .ref (g.2.2 0)), (1, .int v)]) hx hb dM_sets_38 rfl hl (by decide) rfl (fun ls hl => ?_)
      refine lv_iload_n hx hb dM_sets_39 rfl (lv_at hl 0 rfl) ?_
      by_cases hc6 : x5 = 0
      · refine lv_tableIn (off := 59) (tgt := 99) hx hb dM_sets_40 (by rw [hc6]; decide) (by rw [hc6]; decide) (by rw [hc6]; rfl) (by decide) ?_
        refine lv_sipush (v := 1020) hx hb dM_sets_99 (by decide) ?_
        exact mm_iret (S := (0, ks, kc, rn, oc, hd, hs, se, bd, bs, dk, dp, ct, bo, wi, sh, lf, lc, mo, ah)) hx hb hr hlk dM_sets_102 hP hSS (by exact ⟨by subst ex5; (try simp only [k_sets, if_neg hc1, if_pos hc3, if_pos hc6]) <;> rfl, by subst ex5; (try simp only [k_sets, if_neg hc1, if_pos hc3, if_pos hc6]) <;> rfl⟩)
      by_cases hc7 : x5 = 1
      · refine lv_tableIn (off := 70) (tgt := 110) hx hb dM_sets_40 (by rw [hc7]; decide) (by rw [hc7]; decide) (by rw [hc7]; rfl) (by decide) ?_
        refine lv_sipush (v := 384) hx hb dM_sets_110 (by decide) ?_
        exact mm_iret (S := (0, ks, kc, rn, oc, hd, hs, se, bd, bs, dk, dp, ct, bo, wi, sh, lf, lc, mo, ah)) hx hb hr hlk dM_sets_113 hP hSS (by exact ⟨by subst ex5; (try simp only [k_sets, if_neg hc1, if_pos hc3, if_neg hc6, if_pos hc7]) <;> rfl, by subst ex5; (try simp only [k_sets, if_neg hc1, if_pos hc3, if_neg hc6, if_pos hc7]) <;> rfl⟩)
      by_cases hc8 : x5 = 2
      · refine lv_tableIn (off := 66) (tgt := 106) hx hb dM_sets_40 (by rw [hc8]; decide) (by rw [hc8]; decide) (by rw [hc8]; rfl) (by decide) ?_
        refine lv_sipush (v := 144) hx hb dM_sets_106 (by decide) ?_
        exact mm_iret (S := (0, ks, kc, rn, oc, hd, hs, se, bd, bs, dk, dp, ct, bo, wi, sh, lf, lc, mo, ah)) hx hb hr hlk dM_sets_109 hP hSS (by exact ⟨by subst ex5; (try simp only [k_sets, if_neg hc1, if_pos hc3, if_neg hc6, if_neg hc7, if_pos hc8]) <;> rfl, by subst ex5; (try simp only [k_sets, if_neg hc1, if_pos hc3, if_neg hc6, if_neg hc7, if_pos hc8]) <;> rfl⟩)
      by_cases hc9 : x5 = 3
      · refine lv_tableIn (off := 63) (tgt := 103) hx hb dM_sets_40 (by rw [hc9]; decide) (by rw [hc9]; decide) (by rw [hc9]; rfl) (by decide) ?_
        refine lv_bipush (v := 64) hx hb dM_sets_103 (by decide) ?_
        exact mm_iret (S := (0, ks, kc, rn, oc, hd, hs, se, bd, bs, dk, dp, ct, bo, wi, sh, lf, lc, mo, ah)) hx hb hr hlk dM_sets_105 hP hSS (by exact ⟨by subst ex5; (try simp only [k_sets, if_neg hc1, if_pos hc3, if_neg hc6, if_neg hc7, if_neg hc8, if_pos hc9]) <;> rfl, by subst ex5; (try simp only [k_sets, if_neg hc1, if_pos hc3, if_neg hc6, if_neg hc7, if_neg hc8, if_pos hc9]) <;> rfl⟩)
      by_cases hc10 : x5 = 4
      · refine lv_tableIn (off := 59) (tgt := 99) hx hb dM_sets_40 (by rw [hc10]; decide) (by rw [hc10]; decide) (by rw [hc10]; rfl) (by decide) ?_
        refine lv_sipush (v := 1020) hx hb dM_sets_99 (by decide) ?_
        exact mm_iret (S := (0, ks, kc, rn, oc, hd, hs, se, bd, bs, dk, dp, ct, bo, wi, sh, lf, lc, mo, ah)) hx hb hr hlk dM_sets_102 hP hSS (by exact ⟨by subst ex5; (try simp only [k_sets, if_neg hc1, if_pos hc3, if_neg hc6, if_neg hc7, if_neg hc8, if_neg hc9, if_pos hc10]) <;> rfl, by subst ex5; (try simp only [k_sets, if_neg hc1, if_pos hc3, if_neg hc6, if_neg hc7, if_neg hc8, if_neg hc9, if_pos hc10]) <;> rfl⟩)
      by_cases hc11 : x5 = 5
      · refine lv_tableIn (off := 52) (tgt := 92) hx hb dM_sets_40 (by rw [hc11]; decide) (by rw [hc11]; decide) (by rw [hc11]; rfl) (by decide) ?_
        refine lv_iconst (v := 4) hx hb dM_sets_92 (by decide) ?_
        exact mm_iret (S := (0, ks, kc, rn, oc, hd, hs, se, bd, bs, dk, dp, ct, bo, wi, sh, lf, lc, mo, ah)) hx hb hr hlk dM_sets_93 hP hSS (by exact ⟨by subst ex5; (try simp only [k_sets, if_neg hc1, if_pos hc3, if_neg hc6, if_neg hc7, if_neg hc8, if_neg hc9, if_neg hc10, if_pos hc11]) <;> rfl, by subst ex5; (try simp only [k_sets, if_neg hc1, if_pos hc3, if_neg hc6, if_neg hc7, if_neg hc8, if_neg hc9, if_neg hc10, if_pos hc11]) <;> rfl⟩)
      by_cases hc12 : x5 = 6
      · refine lv_tableIn (off := 56) (tgt := 96) hx hb dM_sets_40 (by rw [hc12]; decide) (by rw [hc12]; decide) (by rw [hc12]; rfl) (by decide) ?_
        refine lv_bipush (v := 24) hx hb dM_sets_96 (by decide) ?_
        exact mm_iret (S := (0, ks, kc, rn, oc, hd, hs, se, bd, bs, dk, dp, ct, bo, wi, sh, lf, lc, mo, ah)) hx hb hr hlk dM_sets_98 hP hSS (by exact ⟨by subst ex5; (try simp only [k_sets, if_neg hc1, if_pos hc3, if_neg hc6, if_neg hc7, if_neg hc8, if_neg hc9, if_neg hc10, if_neg hc11, if_pos hc12]) <;> rfl, by subst ex5; (try simp only [k_sets, if_neg hc1, if_pos hc3, if_neg hc6, if_neg hc7, if_neg hc8, if_neg hc9, if_neg hc10, if_neg hc11, if_pos hc12]) <;> rfl⟩)
      by_cases hc13 : x5 = 7
      · refine lv_tableIn (off := 54) (tgt := 94) hx hb dM_sets_40 (by rw [hc13]; decide) (by rw [hc13]; decide) (by rw [hc13]; rfl) (by decide) ?_
        refine lv_iconst (v := 4) hx hb dM_sets_94 (by decide) ?_
        exact mm_iret (S := (0, ks, kc, rn, oc, hd, hs, se, bd, bs, dk, dp, ct, bo, wi, sh, lf, lc, mo, ah)) hx hb hr hlk dM_sets_95 hP hSS (by exact ⟨by subst ex5; (try simp only [k_sets, if_neg hc1, if_pos hc3, if_neg hc6, if_neg hc7, if_neg hc8, if_neg hc9, if_neg hc10, if_neg hc11, if_neg hc12, if_pos hc13]) <;> rfl, by subst ex5; (try simp only [k_sets, if_neg hc1, if_pos hc3, if_neg hc6, if_neg hc7, if_neg hc8, if_neg hc9, if_neg hc10, if_neg hc11, if_neg hc12, if_pos hc13]) <;> rfl⟩)
      by_cases hc14 : x5 = 8
      · refine lv_tableIn (off := 52) (tgt := 92) hx hb dM_sets_40 (by rw [hc14]; decide) (by rw [hc14]; decide) (by rw [hc14]; rfl) (by decide) ?_
        refine lv_iconst (v := 4) hx hb dM_sets_92 (by decide) ?_
        exact mm_iret (S := (0, ks, kc, rn, oc, hd, hs, se, bd, bs, dk, dp, ct, bo, wi, sh, lf, lc, mo, ah)) hx hb hr hlk dM_sets_93 hP hSS (by exact ⟨by subst ex5; (try simp only [k_sets, if_neg hc1, if_pos hc3, if_neg hc6, if_neg hc7, if_neg hc8, if_neg hc9, if_neg hc10, if_neg hc11, if_neg hc12, if_neg hc13, if_pos hc14]) <;> rfl, by subst ex5; (try simp only [k_sets, if_neg hc1, if_pos hc3, if_neg hc6, if_neg hc7, if_neg hc8, if_neg hc9, if_neg hc10, if_neg hc11, if_neg hc12, if_neg hc13, if_pos hc14]) <;> rfl⟩)
      refine lv_tableOut (tgt := 110) hx hb dM_sets_40 (sw_m hc6 hc7 hc8 hc9 hc10 hc11 hc12 hc13 hc14) (by decide) ?_
      refine lv_sipush (v := 384) hx hb dM_sets_110 (by decide) ?_
      exact mm_iret (S := (0, ks, kc, rn, oc, hd, hs, se, bd, bs, dk, dp, ct, bo, wi, sh, lf, lc, mo, ah)) hx hb hr hlk dM_sets_113 hP hSS (by exact ⟨by subst ex5; (try simp only [k_sets, if_neg hc1, if_pos hc3, if_neg hc6, if_neg hc7, if_neg hc8, if_neg hc9, if_neg hc10, if_neg hc11, if_neg hc12, if_neg hc13, if_neg hc14]) <;> rfl, by subst ex5; (try simp only [k_sets, if_neg hc1, if_pos hc3, if_neg hc6, if_neg hc7, if_neg hc8, if_neg hc9, if_neg hc10, if_neg hc11, if_neg hc12, if_neg hc13, if_neg hc14]) <;> rfl⟩)
    · refine lv_iconst (v := 1) hx hb dM_sets_12 (by decide) ?_
      refine lv_goto (tgt := 17) hx hb dM_sets_13 (by decide) ?_
      refine va_put (D := g.1) (ci := 1) (v := .int 1) (ty := .int) (C := "HandTablesModel") (T := T_M) (N := 20) hx hb hts (fun w hw => wd_in (u_inM w hw)) tf_M tf_M_ok n_M hown hK hP (mo_D hap) hSS 0 rfl rfl 0 (by decide) (hts _ (wd_in (gw_mem 457 rfl rfl))) (fun _ h => h) rfl (by decide +kernel) rfl rfl (Nat.le_of_ble_eq_true rfl) dM_sets_17 (fun H locs hP _ hSS => ?_)
      have hP : va_P g.1 cl_X (mo_V g 1 ks kc rn oc hd hs se bd bs dk dp ct bo wi sh lf lc mo ah) H := hP
      refine lv_aload_n hx hb dM_sets_20 rfl (lv_at hl 0 rfl) ?_
      refine va_get (D := g.1) (ci := 1) (v := .int 1) (C := "HandTablesModel") (T := T_M) (N := 20) hx hb hts (fun w hw => wd_in (u_inM w hw)) hown hK hP 0 rfl rfl 0 (by decide) (hts _ (wd_in (gw_mem 457 rfl rfl))) (fun _ h => h) rfl dM_sets_21 ?_
      refine lv_if_le (tgt := 29) hx hb dM_sets_24 (by decide) (fun hc15 => ?_) (fun hc15 => ?_)
      · first | exact absurd hc15 (by decide) | exact absurd (by decide) hc15
      refine lv_iconst (v := 0) hx hb dM_sets_27 (by decide) ?_
      exact mm_iret (S := (1, ks, kc, rn, oc, hd, hs, se, bd, bs, dk, dp, ct, bo, wi, sh, lf, lc, mo, ah)) hx hb hr hlk dM_sets_28 hP hSS (by exact ⟨by (try simp only [k_sets, if_neg hc1, if_neg hc3]) <;> rfl, by (try simp only [k_sets, if_neg hc1, if_neg hc3]) <;> rfl⟩)
set_option maxHeartbeats 4000000 in
set_option maxRecDepth 100000 in
theorem cM_first (l : Launch) (g : mo_E) (th : Int32) (ks : Nat → Int32) (kc : Int32) (rn : Nat → Int32) (oc : Nat → Int32) (hd : Nat → Int32) (hs : Int32) (se : Nat → Int32) (bd : Nat → Int32) (bs : Int32) (dk : Nat → Int32) (dp : Int32) (ct : Int32) (bo : Int32) (wi : Nat → Int32) (sh : Nat → Int32) (lf : Nat → Int32) (lc : Int32) (mo : Int32) (ah : Int32) (v : Int32)  (hap : mo_ap g)  : mm_M l yM_first bM_first 2 (some .int) 1 [.ref (g.2.2 0), .int v] g (th, ks, kc, rn, oc, hd, hs, se, bd, bs, dk, dp, ct, bo, wi, sh, lf, lc, mo, ah) (fun v9 S9 => v9 = some (.int (if v < 0 then 0 else if v ≤ 9 then k_below ks (v * 371293) else 0)) ∧ S9 = ((if v < 0 then 1 else if v ≤ 9 then 0 else 1), ks, kc, rn, oc, hd, hs, se, bd, bs, dk, dp, ct, bo, wi, sh, lf, lc, mo, ah)) := by
  refine Met.ofW (cc := bM_first) (maxL := 2) (ret := (some .int)) (by decide) rfl ?_
  intro p e s m args below meth c s₁ BB hml hv
  obtain ⟨rfl, hB⟩ := hv
  have hx := BB.exec
  have hb := BB.bytes
  have hr := BB.returns
  have hlk := BB.notSynchronized
  have hts := atoms_spec (ws := wd yM_first bM_first 2 (some .int)) BB.pre
  have hown : s.vm.findClass "HandTablesModel" = some m.cls := findClass_of_methodNamed BB.named
  have hS : CallFix p m c bM_first 2 s _ (wd yM_first bM_first 2 (some .int)) "HandTablesModel" := ⟨hx, hb, hml, hown, hts⟩
  obtain ⟨hP, hK⟩ := hB
  have hP : va_P g.1 cl_X (mo_V g th ks kc rn oc hd hs se bd bs dk dp ct bo wi sh lf lc mo ah) s.heap := hP
  have hSS : va_S (mo_fr g) s.heap s.heap [] := va_S.rf
  have hl := lv_entry ([.ref (g.2.2 0), .int v]) (n := 2) (Nat.le_of_ble_eq_true rfl)
  rw [lg_entry_eq]
  generalize (lg_sl ([.ref (g.2.2 0), .int v]) ++ List.replicate (2 - (lg_sl ([.ref (g.2.2 0), .int v])).length) Slot.unset).toArray = ls at hl ⊢
  have hl : lv_has ls 2 [(0, .ref (g.2.2 0)), (1, .int v)] := hl
  obtain ⟨H, eH⟩ : ∃ H, s.heap = H := ⟨_, rfl⟩
  obtain ⟨locs, eL⟩ : ∃ L, ([] : List Loc) = L := ⟨_, rfl⟩
  have hP : va_P g.1 cl_X (mo_V g th ks kc rn oc hd hs se bd bs dk dp ct bo wi sh lf lc mo ah) H := by rw [← eH]; exact hP
  have hSS : va_S (mo_fr g) s.heap H locs := by rw [← eH, ← eL]; exact hSS
  refine mm_go eH eL ?_
  clear eH eL
  refine lv_aload_n hx hb dM_first_0 rfl (lv_at hl 0 rfl) ?_
  refine lv_iload_n hx hb dM_first_1 rfl (lv_at hl 1 rfl) ?_
  refine lv_if_lt (tgt := 11) hx hb dM_first_2 (by decide) (fun hc1 => ?_) (fun hc1 => ?_)
  · refine lv_iconst (v := 1) hx hb dM_first_11 (by decide) ?_
    refine lv_goto (tgt := 16) hx hb dM_first_12 (by decide) ?_
    refine va_put (D := g.1) (ci := 1) (v := .int 1) (ty := .int) (C := "HandTablesModel") (T := T_M) (N := 20) hx hb hts (fun w hw => wd_in (u_inM w hw)) tf_M tf_M_ok n_M hown hK hP (mo_D hap) hSS 0 rfl rfl 0 (by decide) (hts _ (wd_in (gw_mem 457 rfl rfl))) (fun _ h => h) rfl (by decide +kernel) rfl rfl (Nat.le_of_ble_eq_true rfl) dM_first_16 (fun H locs hP _ hSS => ?_)
    have hP : va_P g.1 cl_X (mo_V g 1 ks kc rn oc hd hs se bd bs dk dp ct bo wi sh lf lc mo ah) H := hP
    refine lv_aload_n hx hb dM_first_19 rfl (lv_at hl 0 rfl) ?_
    refine va_get (D := g.1) (ci := 1) (v := .int 1) (C := "HandTablesModel") (T := T_M) (N := 20) hx hb hts (fun w hw => wd_in (u_inM w hw)) hown hK hP 0 rfl rfl 0 (by decide) (hts _ (wd_in (gw_mem 457 rfl rfl))) (fun _ h => h) rfl dM_first_20 ?_
    refine lv_if_le (tgt := 30) hx hb dM_first_23 (by decide) (fun hc2 => ?_) (fun hc2 => ?_)
    · first | exact absurd hc2 (by decide) | exact absurd (by decide) hc2
    refine lv_iconst (v := 0) hx hb dM_first_26 (by decide) ?_
    refine lv_goto (tgt := 38) hx hb dM_first_27 (by decide) ?_
    exact mm_iret (S := (1, ks, kc, rn, oc, hd, hs, se, bd, bs, dk, dp, ct, bo, wi, sh, lf, lc, mo, ah)) hx hb hr hlk dM_first_38 hP hSS (by exact ⟨by (try simp only [if_pos hc1]) <;> rfl, by (try simp only [if_pos hc1]) <;> rfl⟩)
  · refine lv_iload_n hx hb dM_first_5 rfl (lv_at hl 1 rfl) ?_
    refine lv_bipush (v := 9) hx hb dM_first_6 (by decide) ?_
    refine lv_icmp_le (tgt := 15) hx hb dM_first_8 (by decide) (fun hc3 => ?_) (fun hc3 => ?_)
    · refine lv_iconst (v := 0) hx hb dM_first_15 (by decide) ?_
      refine va_put (D := g.1) (ci := 1) (v := .int 0) (ty := .int) (C := "HandTablesModel") (T := T_M) (N := 20) hx hb hts (fun w hw => wd_in (u_inM w hw)) tf_M tf_M_ok n_M hown hK hP (mo_D hap) hSS 0 rfl rfl 0 (by decide) (hts _ (wd_in (gw_mem 457 rfl rfl))) (fun _ h => h) rfl (by decide +kernel) rfl rfl (Nat.le_of_ble_eq_true rfl) dM_first_16 (fun H locs hP _ hSS => ?_)
      have hP : va_P g.1 cl_X (mo_V g 0 ks kc rn oc hd hs se bd bs dk dp ct bo wi sh lf lc mo ah) H := hP
      refine lv_aload_n hx hb dM_first_19 rfl (lv_at hl 0 rfl) ?_
      refine va_get (D := g.1) (ci := 1) (v := .int 0) (C := "HandTablesModel") (T := T_M) (N := 20) hx hb hts (fun w hw => wd_in (u_inM w hw)) hown hK hP 0 rfl rfl 0 (by decide) (hts _ (wd_in (gw_mem 457 rfl rfl))) (fun _ h => h) rfl dM_first_20 ?_
      refine lv_if_le (tgt := 30) hx hb dM_first_23 (by decide) (fun hc4 => ?_) (fun hc4 => ?_)
      rotate_left
      · first | exact absurd hc4 (by decide) | exact absurd (by decide) hc4
      refine lv_aload_n hx hb dM_first_30 rfl (lv_at hl 0 rfl) ?_
      refine lv_iload_n hx hb dM_first_31 rfl (lv_at hl 1 rfl) ?_
      refine lv_ldc (v := 371293) hx hb hown (hts _ (wd_in (gw_mem 444 rfl rfl))) dM_first_32 ?_
      refine lv_imul hx hb dM_first_34 ?_
      refine mm_V (cM_below l g 0 ks kc rn oc hd hs se bd bs dk dp ct bo wi sh lf lc mo ah (v * 371293) hap) rfl kM_M_below hS hK hP ⟨Nat.le_of_ble_eq_true rfl, Nat.le_of_ble_eq_true rfl⟩ hl.1 rfl (Nat.le_of_ble_eq_true rfl) ⟨Nat.zero_le _, Nat.zero_le _⟩ dM_first_35 hSS (fun v9 S9 H locs hR hP hSS => ?_)
      obtain ⟨rfl, rfl⟩ := hR
      have hP : va_P g.1 cl_X (mo_V g 0 ks kc rn oc hd hs se bd bs dk dp ct bo wi sh lf lc mo ah) H := hP
      exact mm_iret (S := (0, ks, kc, rn, oc, hd, hs, se, bd, bs, dk, dp, ct, bo, wi, sh, lf, lc, mo, ah)) hx hb hr hlk dM_first_38 hP hSS (by exact ⟨by (try simp only [if_neg hc1, if_pos hc3]) <;> rfl, by (try simp only [if_neg hc1, if_pos hc3]) <;> rfl⟩)
    · refine lv_iconst (v := 1) hx hb dM_first_11 (by decide) ?_
      refine lv_goto (tgt := 16) hx hb dM_first_12 (by decide) ?_
      refine va_put (D := g.1) (ci := 1) (v := .int 1) (ty := .int) (C := "HandTablesModel") (T := T_M) (N := 20) hx hb hts (fun w hw => wd_in (u_inM w hw)) tf_M tf_M_ok n_M hown hK hP (mo_D hap) hSS 0 rfl rfl 0 (by decide) (hts _ (wd_in (gw_mem 457 rfl rfl))) (fun _ h => h) rfl (by decide +kernel) rfl rfl (Nat.le_of_ble_eq_true rfl) dM_first_16 (fun H locs hP _ hSS => ?_)
      have hP : va_P g.1 cl_X (mo_V g 1 ks kc rn oc hd hs se bd bs dk dp ct bo wi sh lf lc mo ah) H := hP
      refine lv_aload_n hx hb dM_first_19 rfl (lv_at hl 0 rfl) ?_
      refine va_get (D := g.1) (ci := 1) (v := .int 1) (C := "HandTablesModel") (T := T_M) (N := 20) hx hb hts (fun w hw => wd_in (u_inM w hw)) hown hK hP 0 rfl rfl 0 (by decide) (hts _ (wd_in (gw_mem 457 rfl rfl))) (fun _ h => h) rfl dM_first_20 ?_
      refine lv_if_le (tgt := 30) hx hb dM_first_23 (by decide) (fun hc5 => ?_) (fun hc5 => ?_)
      · first | exact absurd hc5 (by decide) | exact absurd (by decide) hc5
      refine lv_iconst (v := 0) hx hb dM_first_26 (by decide) ?_
      refine lv_goto (tgt := 38) hx hb dM_first_27 (by decide) ?_
      exact mm_iret (S := (1, ks, kc, rn, oc, hd, hs, se, bd, bs, dk, dp, ct, bo, wi, sh, lf, lc, mo, ah)) hx hb hr hlk dM_first_38 hP hSS (by exact ⟨by (try simp only [if_neg hc1, if_neg hc3]) <;> rfl, by (try simp only [if_neg hc1, if_neg hc3]) <;> rfl⟩)
