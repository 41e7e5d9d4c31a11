/-! the value of cards by the sets of the ranks that come once, twice, thrice, four times -/
def fo {β : Type} (n : Nat) (f : Nat → β) : β := Nat.rec (f 0) (fun k _ => f (Nat.succ k)) n
theorem fo_eq {β : Type} (n : Nat) (f : Nat → β) : fo n f = f n := by
  cases n <;> rfl
def chB : Nat := 3615512511053201094823541951872992552619737758964316773030925866311815855593237807805095744810900672475796544412233457979135703365359341808187934242533313747060878800644746813744019451715646391296
def chQ (k t : Nat) : Nat := Nat.mod (Nat.div chB (Nat.pow 2 (Nat.mul 10 (Nat.add (Nat.mul 13 k) t)))) 1024
theorem chQ_n : ∀ k, k < 5 → ∀ t, t < 13 → chQ k t = chN t (k + 1) := by decide +kernel
def pl1 (m : Nat) : Nat := bif Nat.beq m 0 then 0 else chQ 0 (Nat.log2 m)
def pl2 (m : Nat) : Nat := bif Nat.beq m 0 then 0 else Nat.add (chQ 1 (Nat.log2 m)) (fo (Nat.sub m (Nat.pow 2 (Nat.log2 m))) pl1)
def pl3 (m : Nat) : Nat := bif Nat.beq m 0 then 0 else Nat.add (chQ 2 (Nat.log2 m)) (fo (Nat.sub m (Nat.pow 2 (Nat.log2 m))) pl2)
def pl4 (m : Nat) : Nat := bif Nat.beq m 0 then 0 else Nat.add (chQ 3 (Nat.log2 m)) (fo (Nat.sub m (Nat.pow 2 (Nat.log2 m))) pl3)
def pl5 (m : Nat) : Nat := bif Nat.beq m 0 then 0 else Nat.add (chQ 4 (Nat.log2 m)) (fo (Nat.sub m (Nat.pow 2 (Nat.log2 m))) pl4)
theorem pl_S (k : Nat) (hk : k < 5) (f : Nat → Nat) (hf : ∀ m, m < 8192 → f m = plN k m) (m : Nat) (hm : m < 8192) : (bif Nat.beq m 0 then 0 else Nat.add (chQ k (Nat.log2 m)) (fo (Nat.sub m (Nat.pow 2 (Nat.log2 m))) f)) = plN (k + 1) m := by
  rw [fo_eq]
  unfold plN
  by_cases h0 : m = 0
  · rw [h0]
    rfl
  · have hb : Nat.beq m 0 = false := by
      cases m with
      | zero => exact absurd rfl h0
      | succ n => rfl
    rw [hb, if_neg h0, chQ_n k hk _ (log_13 hm h0)]
    show chN (Nat.log2 m) (k + 1) + f (m - 2 ^ Nat.log2 m) = _
    rw [hf _ (Nat.lt_of_le_of_lt (Nat.sub_le _ _) hm)]
theorem pl1_n (m : Nat) (hm : m < 8192) : pl1 m = plN 1 m := by
  have := pl_S 0 (by decide) (fun _ => 0) (fun m _ => rfl) m hm
  rw [fo_eq] at this
  exact this
theorem pl2_n (m : Nat) (hm : m < 8192) : pl2 m = plN 2 m := pl_S 1 (by decide) pl1 pl1_n m hm
theorem pl3_n (m : Nat) (hm : m < 8192) : pl3 m = plN 3 m := pl_S 2 (by decide) pl2 pl2_n m hm
theorem pl4_n (m : Nat) (hm : m < 8192) : pl4 m = plN 4 m := pl_S 3 (by decide) pl3 pl3_n m hm
theorem pl5_n (m : Nat) (hm : m < 8192) : pl5 m = plN 5 m := pl_S 4 (by decide) pl4 pl4_n m hm
def le01 (q x : Nat) : Nat := bif Nat.ble q x then 0 else 1
def pbQ (q : Nat) : Nat := Nat.sub q (le01 q 0 + le01 q 5 + le01 q 20 + le01 q 55 + le01 q 125 + le01 q 251 + le01 q 461 + le01 q 791 + le01 q 792 + le01 q 1286)
def pbN (m : Nat) : Nat := fo (pl5 m) pbQ
def whQ (m r : Nat) : Nat := fo (Nat.pow 2 r) (fun p => Nat.add (Nat.mod m p) (Nat.mul p (Nat.div m (Nat.mul 2 p))))
theorem whQ_n (m r : Nat) : whQ m r = whN m r := by
  unfold whQ whN
  rw [fo_eq]
  show m % 2 ^ r + 2 ^ r * (m / (2 * 2 ^ r)) = m % 2 ^ r + 2 ^ r * (m / 2 ^ (r + 1))
  rw [Nat.pow_succ, Nat.mul_comm 2]
def stR (w : Nat) : Nat := Nat.land (Nat.land (Nat.land (Nat.land w (Nat.div w 2)) (Nat.div w 4)) (Nat.div w 8)) (Nat.div w 16)
def stQ (m : Nat) : Nat := fo (Nat.add (Nat.mul 2 m) (Nat.div m 4096)) stR
theorem stQ_n (m : Nat) : stQ m = stN m := by
  unfold stQ
  rw [fo_eq]
  rfl
def GNp (O T h t : Nat) : Nat := bif Nat.beq t 0 then Nat.add (Nat.add 1277 (Nat.mul h 220)) (fo (whQ O h) pl3) else Nat.add (Nat.add 4137 (Nat.mul (pl2 T) 11)) (fo (whQ (whQ O h) (Nat.log2 t)) pl1)
def GN4 (O T H : Nat) : Nat := bif Nat.beq H 0 then (bif Nat.beq T 0 then pbN O else fo (Nat.log2 T) (fun h => fo (whQ T h) (GNp O T h))) else fo (Nat.log2 H) (fun h => Nat.add (Nat.add 4995 (Nat.mul h 66)) (fo (whQ O h) pl2))
def GN3 (O T H : Nat) : Nat := fo (stQ O) (fun s => bif Nat.beq s 0 then GN4 O T H else Nat.add 5853 (Nat.log2 s))
def GN2 (O T H : Nat) : Nat := bif Nat.beq H 0 then GN3 O T H else fo (Nat.log2 H) (fun h => fo (whQ T h) (fun t => bif Nat.beq t 0 then GN3 O T H else Nat.add (Nat.add 7140 (Nat.mul h 12)) (pl1 t)))
/-- the value of cards of which no five have one suit -/
def GN (O T H F : Nat) : Nat := bif Nat.beq F 0 then GN2 O T H else fo (Nat.log2 F) (fun h => Nat.add (Nat.add 7296 (Nat.mul h 12)) (fo (whQ O h) pl1))
/-- the value of five or more cards of one suit -/
def FLN (S : Nat) : Nat := fo (stQ S) (fun s => bif Nat.beq s 0 then Nat.add 5863 (pbN S) else Nat.add 7452 (Nat.log2 s))
theorem whN_le (m r : Nat) : whN m r ≤ m := by
  unfold whN
  have h1 : m / 2 ^ (r + 1) ≤ m / 2 ^ r := by
    rw [Nat.pow_succ, ← Nat.div_div_eq_div_mul]
    exact Nat.div_le_self _ _
  have h2 := Nat.mul_le_mul_left (2 ^ r) h1
  have h3 := Nat.mod_add_div m (2 ^ r)
  omega
theorem pl5_ck : ck_B (fun m => Nat.blt (pl5 m) 1287) 13 0 = true := by decide +kernel
theorem pb_ck : ∀ q, q < 1287 → nI q - pb_lp (nI q) 10 0 = nI (pbQ q) := by decide +kernel
theorem pbs_n {m : Nat} (hm : m < 8192) : f_pbs (sp m) = nI (pbN m) := by
  unfold f_pbs pbN
  have h := ck_of 13 0 pl5_ck m (Nat.zero_le _) (by omega)
  simp only [Nat.blt_eq] at h
  rw [place_n (by decide) hm, fo_eq, ← pl5_n m hm]
  exact pb_ck _ h
theorem nI_mulc (a b : Nat) : nI a * nI b = nI (a * b) := by
  unfold nI
  rw [Int32.ofNat_mul]
theorem bq0 (n : Nat) : Nat.beq n 0 = decide (n = 0) := by
  cases n <;> rfl
theorem GN_p {O T : Nat} (hO : O < 8192) (hT : T < 8192) (h0 : T ≠ 0) : f_pairs (sp O) (sp T) = nI (GNp O T (Nat.log2 T) (whN T (Nat.log2 T))) := by
  have hw := Nat.lt_of_le_of_lt (whN_le T (Nat.log2 T)) hT
  have hw2 := Nat.lt_of_le_of_lt (whN_le O (Nat.log2 T)) hO
  unfold f_pairs GNp
  rw [hi_sp hT h0, wh_n hT (log_13 hT h0), wh_n hO (log_13 hT h0), bq0]
  by_cases h1 : whN T (Nat.log2 T) = 0
  · rw [if_pos ((sp_0 hw).mpr h1), decide_eq_true h1, fo_eq, whQ_n, place_n (by decide) hw2, pl3_n _ hw2]
    show nI 1277 + nI (Nat.log2 T) * nI 220 + _ = _
    rw [nI_mulc, nI_add, nI_add]
    rfl
  · rw [if_neg (fun y => h1 ((sp_0 hw).mp y)), decide_eq_false h1, fo_eq, fo_eq, whQ_n, whQ_n, hi_sp hw h1, wh_n hw2 (log_13 hw h1), place_n (by decide) hT, place_n (by decide) (Nat.lt_of_le_of_lt (whN_le _ _) hw2), pl1_n _ (Nat.lt_of_le_of_lt (whN_le _ _) hw2), pl2_n _ hT]
    show nI 4137 + nI (plN 2 T) * nI 11 + _ = _
    rw [nI_mulc, nI_add, nI_add]
    rfl
theorem GN_4 {O T H : Nat} (hO : O < 8192) (hT : T < 8192) (hH : H < 8192) : (if sp H = 0 then if sp T = 0 then fi 0 + f_pbs (sp O) else f_pairs (sp O) (sp T) else fi 3 + f_highest (sp H) * 66 + f_placeOf (f_without (sp O) (f_highest (sp H))) 2) = nI (GN4 O T H) := by
  unfold GN4
  rw [bq0, bq0]
  by_cases h1 : H = 0
  · rw [if_pos ((sp_0 hH).mpr h1), decide_eq_true h1]
    by_cases h2 : T = 0
    · rw [if_pos ((sp_0 hT).mpr h2), decide_eq_true h2, pbs_n hO]
      show nI 0 + _ = _
      rw [nI_add, Nat.zero_add]
      rfl
    · rw [if_neg (fun y => h2 ((sp_0 hT).mp y)), decide_eq_false h2, GN_p hO hT h2, fo_eq, fo_eq, whQ_n]
      rfl
  · have hw := Nat.lt_of_le_of_lt (whN_le O (Nat.log2 H)) hO
    rw [if_neg (fun y => h1 ((sp_0 hH).mp y)), decide_eq_false h1, hi_sp hH h1, wh_n hO (log_13 hH h1), place_n (by decide) hw, fo_eq, fo_eq, fo_eq, fo_eq, whQ_n, whQ_n, pl2_n _ hw]
    show nI 4995 + nI (Nat.log2 H) * nI 66 + _ = _
    rw [nI_mulc, nI_add, nI_add]
    rfl
theorem GN_3 {O T H : Nat} (hO : O < 8192) (hT : T < 8192) (hH : H < 8192) : v_3 0 (sp O) (sp T) (sp H) = nI (GN3 O T H) := by
  obtain ⟨e1, e2⟩ := str_n hO
  unfold v_3 GN3
  rw [if_pos rfl, e1, fo_eq, stQ_n, bq0]
  by_cases h1 : stN O = 0
  · rw [if_pos ((sp_0 e2).mpr h1), decide_eq_true h1]
    exact GN_4 hO hT hH
  · rw [if_neg (fun y => h1 ((sp_0 e2).mp y)), decide_eq_false h1, hi_sp e2 h1]
    show nI 5853 + _ = _
    rw [nI_add]
    rfl
theorem GN_n {O T H F : Nat} (hO : O < 8192) (hT : T < 8192) (hH : H < 8192) (hF : F < 8192) : v_2 0 (sp O) (sp T) (sp H) (sp F) = nI (GN O T H F) := by
  unfold v_2 GN
  rw [if_pos (show f_straights 0 = 0 by decide +kernel), bq0]
  by_cases h1 : F = 0
  · rw [if_pos ((sp_0 hF).mpr h1), decide_eq_true h1]
    show _ = nI (GN2 O T H)
    unfold GN2
    rw [bq0]
    by_cases h2 : H = 0
    · rw [if_pos ((sp_0 hH).mpr h2), decide_eq_true h2]
      exact GN_3 hO hT hH
    · have hw := Nat.lt_of_le_of_lt (whN_le T (Nat.log2 H)) hT
      rw [if_neg (fun y => h2 ((sp_0 hH).mp y)), decide_eq_false h2, hi_sp hH h2, wh_n hT (log_13 hH h2), fo_eq, fo_eq, whQ_n, bq0]
      by_cases h3 : whN T (Nat.log2 H) = 0
      · rw [if_pos ((sp_0 hw).mpr h3), decide_eq_true h3]
        exact GN_3 hO hT hH
      · rw [if_neg (fun y => h3 ((sp_0 hw).mp y)), decide_eq_false h3, place_n (by decide) hw, pl1_n _ hw]
        show nI 7140 + nI (Nat.log2 H) * nI 12 + _ = _
        rw [nI_mulc, nI_add, nI_add]
        rfl
  · have hw := Nat.lt_of_le_of_lt (whN_le O (Nat.log2 F)) hO
    rw [if_neg (fun y => h1 ((sp_0 hF).mp y)), decide_eq_false h1, hi_sp hF h1, wh_n hO (log_13 hF h1), place_n (by decide) hw, fo_eq, fo_eq, whQ_n, pl1_n _ hw]
    show nI 7296 + nI (Nat.log2 F) * nI 12 + _ = _
    rw [nI_mulc, nI_add, nI_add]
    rfl
/-- no four of one rank and no full house -/
def noFF (T H F : Nat) : Bool := Nat.beq F 0 && (Nat.beq H 0 || Nat.beq (whQ T (Nat.log2 H)) 0)
theorem FL_n {S O T H F : Nat} (hS : S < 8192) (hO : O < 8192) (hT : T < 8192) (hH : H < 8192) (hF : F < 8192) (h0 : S ≠ 0) (hn : noFF T H F = true) : v_2 (sp S) (sp O) (sp T) (sp H) (sp F) = nI (FLN S) := by
  obtain ⟨e1, e2⟩ := str_n hS
  unfold v_2 FLN
  rw [e1, fo_eq, stQ_n, bq0]
  by_cases h1 : stN S = 0
  · rw [if_pos ((sp_0 e2).mpr h1), decide_eq_true h1]
    unfold noFF at hn
    rw [Bool.and_eq_true, Bool.or_eq_true, bq0, bq0, bq0, decide_eq_true_iff, decide_eq_true_iff, decide_eq_true_iff, whQ_n] at hn
    have h3 : v_3 (sp S) (sp O) (sp T) (sp H) = nI (5863 + pbN S) := by
      unfold v_3
      rw [if_neg (fun y => h0 ((sp_0 hS).mp y)), pbs_n hS]
      show nI 5863 + _ = _
      rw [nI_add]
    rw [if_pos ((sp_0 hF).mpr hn.1)]
    by_cases h2 : H = 0
    · rw [if_pos ((sp_0 hH).mpr h2)]
      exact h3
    · have hw := Nat.lt_of_le_of_lt (whN_le T (Nat.log2 H)) hT
      rw [if_neg (fun y => h2 ((sp_0 hH).mp y)), hi_sp hH h2, wh_n hT (log_13 hH h2), if_pos ((sp_0 hw).mpr (hn.2.resolve_left h2))]
      exact h3
  · rw [if_neg (fun y => h1 ((sp_0 e2).mp y)), decide_eq_false h1, hi_sp e2 h1]
    show nI 7452 + _ = _
    rw [nI_add]
    rfl
