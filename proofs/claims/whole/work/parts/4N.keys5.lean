/-! the key of five ranks, whatever their order -/
def P0 (a b c d e : Nat) : Int32 × Nat := (K0 a b c d e, v0 a b c d e)
def P1 (a b c d e : Nat) : Int32 × Nat := (K1 a b c d e, v1 a b c d e)
theorem pair_n (n : Nat) (h : gLa K0 K1 n = (gLa v0 v1 n).map (fun v => nI (kv v))) : ∀ p, p ∈ gLa P0 P1 n → p.1 = nI (kv p.2) := by
  have a0 : cp5 P0 Prod.fst = K0 := by
    funext a b c d e
    show (P0 a b c d e).1 = _
    dsimp only [P0]
  have a1 : cp5 P1 Prod.fst = K1 := by
    funext a b c d e
    show (P1 a b c d e).1 = _
    dsimp only [P1]
  have b0 : cp5 P0 Prod.snd = v0 := by
    funext a b c d e
    show (P0 a b c d e).2 = _
    dsimp only [P0]
  have b1 : cp5 P1 Prod.snd = v1 := by
    funext a b c d e
    show (P1 a b c d e).2 = _
    dsimp only [P1]
  have h1 : (gLa P0 P1 n).map Prod.fst = gLa K0 K1 n := by
    rw [gLa_map, a0, a1]
  have h2 : (gLa P0 P1 n).map Prod.snd = gLa v0 v1 n := by
    rw [gLa_map, b0, b1]
  have e2 : (gLa P0 P1 n).map Prod.fst = (gLa P0 P1 n).map (fun p => nI (kv p.2)) := by
    rw [h1, h, ← h2, List.map_map]
    rfl
  intro p hp
  exact List.map_inj_left.mp e2 p hp
theorem made_n (n : Nat) (hn : n ≤ 13) (h : kLa n = od.map (fun v => nI (kv v))) (h2 : eqL (gLa v0 v1 n) od = true) : gLa K0 K1 n = (gLa v0 v1 n).map (fun v => nI (kv v)) := by
  rw [eqL_eq _ _ h2, ← h, kLa_g n hn]
theorem pair_eq {a b c d e : Nat} (h1 : a ≤ b) (h2 : b ≤ c) (h3 : c ≤ d) (h4 : d ≤ e) (he : e < 13) {z : Int32 × Nat} (hz : z ∈ gE P0 P1 a b c d e) : z.1 = nI (kv z.2) :=
  pair_n 13 (made_n 13 (Nat.le_refl _) made_eq od_ck) z (g_in P0 P1 h1 h2 h3 h4 he hz)
def ic (c : Nat → Nat) (r : Nat) : Nat → Nat := fun i => if i = r then c i + 1 else c i
/-- how often each rank is in the list -/
def cl : List Nat → Nat → Nat
  | [] => fun _ => 0
  | r :: L => ic (cl L) r
theorem cl_count : ∀ (L : List Nat) (i : Nat), cl L i = L.count i
  | [], i => rfl
  | r :: L, i => by
    rw [List.count_cons, ← cl_count L i]
    show ic (cl L) r i = _
    unfold ic
    by_cases h : i = r
    · rw [if_pos h, if_pos (by simp [h])]
    · rw [if_neg h, if_neg (by simp; exact fun z => h z.symm)]
      rfl
theorem cl_perm {L M : List Nat} (h : L.Perm M) : cl L = cl M := by
  funext i
  rw [cl_count, cl_count, h.count_eq]
theorem dc_ic (c : Nat → Nat) (r : Nat) : dc (ic c r) r = c := by
  funext i
  unfold dc ic
  by_cases h : i = r
  · rw [if_pos h, if_pos h]
    omega
  · rw [if_neg h, if_neg h]
theorem ins_ok (c : Nat → Nat) {r : Nat} (hr : r < 13) (h3 : c r ≤ 3) (k : Nat → Nat → Nat → Nat → Nat) : ins (2 ^ r) (sN c 1 13) (sN c 2 13) (sN c 3 13) (sN c 4 13) k = k (sN (ic c r) 1 13) (sN (ic c r) 2 13) (sN (ic c r) 3 13) (sN (ic c r) 4 13) := by
  have hi : ic c r r = c r + 1 := if_pos rfl
  have e : ∀ j, 1 ≤ j → sN c j 13 + (if r < 13 ∧ c r + 1 = j then 2 ^ r else 0) = sN (ic c r) j 13 := by
    intro j hj
    have := sN_dc (ic c r) r j (by omega) hj 13
    rw [dc_ic, hi] at this
    exact this
  rw [← e 1 (by decide), ← e 2 (by decide), ← e 3 (by decide), ← e 4 (by decide)]
  unfold ins
  simp only [bt_b, sN_bit, fo_eq]
  obtain hk | hk | hk | hk : c r = 0 ∨ c r = 1 ∨ c r = 2 ∨ c r = 3 := by omega
  all_goals
    rw [hk]
    simp [hr]
theorem sN_0 (j : Nat) (hj : 1 ≤ j) : ∀ k, sN (fun _ => 0) j k = 0
  | 0 => rfl
  | k + 1 => by
    unfold sN
    rw [sN_0 j hj k, if_neg (by omega)]
theorem v0_gc {a b c d e : Nat} (h1 : a ≤ b) (h2 : b ≤ c) (h3 : c ≤ d) (h4 : d ≤ e) (he : e < 13) (hae : a < e) : v0 a b c d e = gc (cl [e, d, c, b, a]) := by
  have z : ∀ j, 1 ≤ j → sN (cl []) j 13 = 0 := fun j hj => sN_0 j hj 13
  unfold v0
  simp only [fo_eq]
  have s1 := ins_ok (cl []) (r := a) (by omega) (by show 0 ≤ 3; decide)
  rw [z 1 (by decide), z 2 (by decide), z 3 (by decide), z 4 (by decide)] at s1
  have hic : ∀ (f : Nat → Nat) (r i : Nat), ic f r i ≤ f i + 1 := by
    intro f r i
    unfold ic
    split <;> omega
  have l0 : ∀ i, cl [] i = 0 := fun _ => rfl
  have l1 : ∀ i, ic (cl []) a i ≤ 1 := fun i => by
    have := hic (cl []) a i
    have := l0 i
    omega
  have l2 : ∀ i, ic (ic (cl []) a) b i ≤ 2 := fun i => by
    have := hic (ic (cl []) a) b i
    have := l1 i
    omega
  have l3 : ∀ i, ic (ic (ic (cl []) a) b) c i ≤ 3 := fun i => by
    have := hic (ic (ic (cl []) a) b) c i
    have := l2 i
    omega
  have l4 : ic (ic (ic (ic (cl []) a) b) c) d e ≤ 3 := by
    have q1 : ic (cl []) a e = 0 := if_neg (by omega)
    have q2 := hic (ic (cl []) a) b e
    have q3 := hic (ic (ic (cl []) a) b) c e
    have q4 := hic (ic (ic (ic (cl []) a) b) c) d e
    omega
  refine (s1 _).trans ?_
  refine (ins_ok (ic (cl []) a) (by omega) (Nat.le_trans (l1 b) (by decide)) _).trans ?_
  refine (ins_ok (ic (ic (cl []) a) b) (by omega) (Nat.le_trans (l2 c) (by decide)) _).trans ?_
  refine (ins_ok (ic (ic (ic (cl []) a) b) c) (by omega) (l3 d) _).trans ?_
  exact ins_ok (ic (ic (ic (ic (cl []) a) b) c) d) he l4 GN
theorem sN_1 {c : Nat → Nat} {r : Nat} (hr : r < 13) (h0 : c r = 0) : sN c 1 13 + 2 ^ r = sN (ic c r) 1 13 := by
  have hi : ic c r r = c r + 1 := if_pos rfl
  have := sN_dc (ic c r) r 1 (by omega) (by decide) 13
  rw [dc_ic, hi, if_pos ⟨hr, by omega⟩] at this
  exact this
theorem v1_fl {a b c d e : Nat} (h1 : a < b) (h2 : b < c) (h3 : c < d) (h4 : d < e) (he : e < 13) : v1 a b c d e = FLN (sN (cl [e, d, c, b, a]) 1 13) := by
  unfold v1
  rw [fo_eq]
  congr 1
  have ne : ∀ (f : Nat → Nat) {r i : Nat}, i ≠ r → ic f r i = f i := fun f r i h => if_neg h
  have s0 : sN (cl []) 1 13 = 0 := sN_0 1 (by decide) 13
  have s1 := sN_1 (c := cl []) (r := a) (by omega) rfl
  have s2 := sN_1 (c := ic (cl []) a) (r := b) (by omega) (by rw [ne _ (by omega)]; rfl)
  have s3 := sN_1 (c := ic (ic (cl []) a) b) (r := c) (by omega) (by rw [ne _ (by omega), ne _ (by omega)]; rfl)
  have s4 := sN_1 (c := ic (ic (ic (cl []) a) b) c) (r := d) (by omega) (by rw [ne _ (by omega), ne _ (by omega), ne _ (by omega)]; rfl)
  have s5 := sN_1 (c := ic (ic (ic (ic (cl []) a) b) c) d) (r := e) (by omega) (by rw [ne _ (by omega), ne _ (by omega), ne _ (by omega), ne _ (by omega)]; rfl)
  show 2 ^ a + 2 ^ b + 2 ^ c + 2 ^ d + 2 ^ e = sN (ic (ic (ic (ic (ic (cl []) a) b) c) d) e) 1 13
  rw [← s5, ← s4, ← s3, ← s2, ← s1, s0]
  omega
theorem upd_ic (c : Nat → Nat) (r : Nat) : upd (fun i => nI (c i)) r (nI (c r) + 1) = fun i => nI (ic c r i) := by
  funext i
  unfold upd ic
  by_cases h : i = r
  · rw [if_pos h, if_pos h, nI_1, h]
  · rw [if_neg h, if_neg h]
theorem oc_cl {r : Nat → Int32} {R : Nat → Nat} (h : ∀ i, i < 5 → r i = nI (R i)) (h2 : ∀ i, i < 5 → R i < 13) : k_oc r = fun i => nI (cl [R 4, R 3, R 2, R 1, R 0] i) := by
  have st : ∀ (n : Nat) (c : Nat → Nat), n < 5 → kc_lp r (n + 1) (fun i => nI (c i)) = kc_lp r n (fun i => nI (ic c (R (4 - n)) i)) := by
    intro n c hn
    show kc_lp r n (upd (fun i => nI (c i)) (r (nI (5 - (n + 1))).toNatClampNeg).toNatClampNeg (nI (c (r (nI (5 - (n + 1))).toNatClampNeg).toNatClampNeg) + 1)) = _
    have h3 := h2 (4 - n) (by omega)
    rw [nI_clamp (by omega), show 5 - (n + 1) = 4 - n by omega, h _ (by omega), nI_clamp (by omega), upd_ic]
  show kc_lp r 5 (fun i => nI (cl [] i)) = _
  rw [st 4 _ (by decide), st 3 _ (by decide), st 2 _ (by decide), st 1 _ (by decide), st 0 _ (by decide)]
  rfl
theorem oc_5 {a b c d e : Nat} (ha : a < 13) (hb : b < 13) (hc : c < 13) (hd : d < 13) (he : e < 13) {r : Nat → Int32} (h0 : r 0 = nI a) (h1 : r 1 = nI b) (h2 : r 2 = nI c) (h3 : r 3 = nI d) (h4 : r 4 = nI e) : k_oc r = fun i => nI (cl [e, d, c, b, a] i) := by
  have fin : ∀ P : Nat → Prop, P 0 → P 1 → P 2 → P 3 → P 4 → ∀ i, i < 5 → P i := by
    intro P p0 p1 p2 p3 p4 i hi
    obtain h | h | h | h | h : i = 0 ∨ i = 1 ∨ i = 2 ∨ i = 3 ∨ i = 4 := by omega
    · rw [h]; exact p0
    · rw [h]; exact p1
    · rw [h]; exact p2
    · rw [h]; exact p3
    · rw [h]; exact p4
  exact oc_cl (R := fun i => [a, b, c, d, e].getD i 0) (fin _ h0 h1 h2 h3 h4) (fin (fun i => [a, b, c, d, e].getD i 0 < 13) ha hb hc hd he)
theorem key_0 {a b c d e : Nat} (h1 : a ≤ b) (h2 : b ≤ c) (h3 : c ≤ d) (h4 : d ≤ e) (he : e < 13) (hae : a < e) : k_key (fun i => nI (cl [e, d, c, b, a] i)) 0 = nI (kv (gc (cl [e, d, c, b, a]))) := by
  have hm : P0 a b c d e ∈ gE P0 P1 a b c d e := by
    unfold gE
    rw [if_neg (by omega)]
    exact List.mem_append_left _ List.mem_cons_self
  have hq := pair_eq h1 h2 h3 h4 he hm
  have e1 : (P0 a b c d e).1 = K0 a b c d e := by
    dsimp only [P0]
  have e2 : (P0 a b c d e).2 = v0 a b c d e := by
    dsimp only [P0]
  rw [e1, e2, v0_gc h1 h2 h3 h4 he hae] at hq
  rw [← hq]
  unfold K0
  rw [oc_5 (by omega) (by omega) (by omega) (by omega) he (r := k_r5 (nI a) (nI b) (nI c) (nI d) (nI e)) rfl rfl rfl rfl rfl]
theorem key_1 {a b c d e : Nat} (h1 : a < b) (h2 : b < c) (h3 : c < d) (h4 : d < e) (he : e < 13) : k_key (fun i => nI (cl [e, d, c, b, a] i)) 1 = nI (kv (FLN (sN (cl [e, d, c, b, a]) 1 13))) := by
  have hm : P1 a b c d e ∈ gE P0 P1 a b c d e := by
    unfold gE
    rw [if_neg (show ¬ b ≤ a by omega), if_neg (show ¬ c ≤ b by omega), if_neg (show ¬ d ≤ c by omega), if_neg (show ¬ e ≤ d by omega)]
    exact List.mem_append_right _ List.mem_cons_self
  have hq := pair_eq (by omega) (by omega) (by omega) (by omega) he hm
  have e1 : (P1 a b c d e).1 = K1 a b c d e := by
    dsimp only [P1]
  have e2 : (P1 a b c d e).2 = v1 a b c d e := by
    dsimp only [P1]
  rw [e1, e2, v1_fl h1 h2 h3 h4 he] at hq
  rw [← hq]
  unfold K1
  rw [oc_5 (by omega) (by omega) (by omega) (by omega) he (r := k_r5 (nI a) (nI b) (nI c) (nI d) (nI e)) rfl rfl rfl rfl rfl]
theorem len5 {L : List Nat} (h : L.length = 5) : ∃ a b c d e, L = [a, b, c, d, e] := by
  match L, h with
  | [a, b, c, d, e], _ => exact ⟨a, b, c, d, e, rfl⟩
/-- five ranks can be put in order -/
theorem sort5 {L : List Nat} (h : L.length = 5) (h13 : ∀ r ∈ L, r < 13) : ∃ a b c d e, a ≤ b ∧ b ≤ c ∧ c ≤ d ∧ d ≤ e ∧ e < 13 ∧ cl L = cl [e, d, c, b, a] := by
  have hp := List.mergeSort_perm L (fun a b => decide (a ≤ b))
  have hs := List.pairwise_mergeSort (le := fun a b : Nat => decide (a ≤ b)) (fun a b c h1 h2 => decide_eq_true (Nat.le_trans (of_decide_eq_true h1) (of_decide_eq_true h2))) (fun a b => by
    rw [Bool.or_eq_true, decide_eq_true_iff, decide_eq_true_iff]
    omega) L
  obtain ⟨a, b, c, d, e, hL⟩ := len5 (hp.length_eq.trans h)
  rw [hL] at hp hs
  simp only [List.pairwise_cons, List.mem_cons, List.not_mem_nil, or_false, forall_eq_or_imp, forall_eq, decide_eq_true_iff] at hs
  refine ⟨a, b, c, d, e, hs.1.1, hs.2.1.1, hs.2.2.1.1, hs.2.2.2.1, h13 e (hp.subset (by simp)), ?_⟩
  rw [← cl_perm hp]
  apply cl_perm
  exact (List.reverse_perm [a, b, c, d, e]).symm
theorem key5_0 {L : List Nat} (h : L.length = 5) (h13 : ∀ r ∈ L, r < 13) (h4 : ∀ r, cl L r ≤ 4) : k_key (fun i => nI (cl L i)) 0 = nI (kv (gc (cl L))) := by
  obtain ⟨a, b, c, d, e, h1, h2, h3, h5, he, hc⟩ := sort5 h h13
  rw [hc] at h4 ⊢
  refine key_0 h1 h2 h3 h5 he ?_
  apply Nat.lt_of_not_le
  intro hle
  have e1 : a = e := by omega
  have e2 : b = e := by omega
  have e3 : c = e := by omega
  have e4 : d = e := by omega
  have := h4 e
  rw [cl_count, e1, e2, e3, e4] at this
  simp at this
theorem key5_1 {L : List Nat} (h : L.length = 5) (h13 : ∀ r ∈ L, r < 13) (h4 : ∀ r, cl L r ≤ 1) : k_key (fun i => nI (cl L i)) 1 = nI (kv (FLN (sN (cl L) 1 13))) := by
  obtain ⟨a, b, c, d, e, h1, h2, h3, h5, he, hc⟩ := sort5 h h13
  rw [hc] at h4 ⊢
  have ge : ∀ (f : Nat → Nat) (r i : Nat), f i ≤ ic f r i := by
    intro f r i
    unfold ic
    split <;> omega
  have eq : ∀ (f : Nat → Nat) (r : Nat), ic f r r = f r + 1 := fun f r => if_pos rfl
  have dif : ∀ (x y : Nat), cl [x, y] x ≤ 1 → x ≠ y := by
    intro x y hx e
    subst e
    have e1 := eq (cl [x]) x
    have e2 := eq (cl []) x
    have e3 : cl [x, x] x = ic (cl [x]) x x := rfl
    have e4 : cl [x] x = ic (cl []) x x := rfl
    omega
  have q1 : cl [b, a] b ≤ 1 := Nat.le_trans (Nat.le_trans (Nat.le_trans (ge _ c b) (ge _ d b)) (ge _ e b)) (h4 b)
  have k1 : b ≠ a := dif _ _ q1
  have ge2 : ∀ (f g : Nat → Nat) (r : Nat), (∀ i, f i ≤ g i) → ∀ i, ic f r i ≤ ic g r i := by
    intro f g r hfg i
    have := hfg i
    unfold ic
    split <;> omega
  have z : ∀ (f : Nat → Nat) (i : Nat), cl [] i ≤ f i := fun f i => Nat.zero_le _
  have q2 : cl [c, b] c ≤ 1 := Nat.le_trans (Nat.le_trans (Nat.le_trans (ge2 _ _ c (ge2 _ _ b (z _)) c) (ge _ d c)) (ge _ e c)) (h4 c)
  have q3 : cl [d, c] d ≤ 1 := Nat.le_trans (Nat.le_trans (ge2 _ _ d (ge2 _ _ c (z _)) d) (ge _ e d)) (h4 d)
  have q4 : cl [e, d] e ≤ 1 := Nat.le_trans (ge2 _ _ e (ge2 _ _ d (z _)) e) (h4 e)
  have k2 : c ≠ b := dif _ _ q2
  have k3 : d ≠ c := dif _ _ q3
  have k4 : e ≠ d := dif _ _ q4
  exact key_1 (by omega) (by omega) (by omega) (by omega) he
