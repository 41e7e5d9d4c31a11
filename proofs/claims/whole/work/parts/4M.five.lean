/-! five cards: the key by the counts of their ranks -/
def gE {α : Type} (F0 F1 : Nat → Nat → Nat → Nat → Nat → α) (a b c d e : Nat) : List α := (if e ≤ a then [] else [F0 a b c d e]) ++ (if b ≤ a then [] else if c ≤ b then [] else if d ≤ c then [] else if e ≤ d then [] else [F1 a b c d e])
def gLe {α : Type} (F0 F1 : Nat → Nat → Nat → Nat → Nat → α) (a b c d : Nat) : Nat → List α
  | 0 => []
  | n + 1 => gE F0 F1 a b c d (13 - (n + 1)) ++ gLe F0 F1 a b c d n
def gLd {α : Type} (F0 F1 : Nat → Nat → Nat → Nat → Nat → α) (a b c : Nat) : Nat → List α
  | 0 => []
  | n + 1 => gLe F0 F1 a b c (13 - (n + 1)) (n + 1) ++ gLd F0 F1 a b c n
def gLc {α : Type} (F0 F1 : Nat → Nat → Nat → Nat → Nat → α) (a b : Nat) : Nat → List α
  | 0 => []
  | n + 1 => gLd F0 F1 a b (13 - (n + 1)) (n + 1) ++ gLc F0 F1 a b n
def gLb {α : Type} (F0 F1 : Nat → Nat → Nat → Nat → Nat → α) (a : Nat) : Nat → List α
  | 0 => []
  | n + 1 => gLc F0 F1 a (13 - (n + 1)) (n + 1) ++ gLb F0 F1 a n
def gLa {α : Type} (F0 F1 : Nat → Nat → Nat → Nat → Nat → α) : Nat → List α
  | 0 => []
  | n + 1 => gLb F0 F1 (13 - (n + 1)) (n + 1) ++ gLa F0 F1 n
section
variable {α β : Type} (F0 F1 : Nat → Nat → Nat → Nat → Nat → α) (f : α → β)
abbrev cp5 (F0 : Nat → Nat → Nat → Nat → Nat → α) (f : α → β) : Nat → Nat → Nat → Nat → Nat → β := fun a b c d e => f (F0 a b c d e)
theorem gE_map (a b c d e : Nat) : (gE F0 F1 a b c d e).map f = gE (cp5 F0 f) (cp5 F1 f) a b c d e := by
  unfold gE
  rw [List.map_append]
  congr 1
  · split <;> rfl
  · split
    · rfl
    · split
      · rfl
      · split
        · rfl
        · split <;> rfl
theorem gLe_map (a b c d : Nat) : ∀ n, (gLe F0 F1 a b c d n).map f = gLe (cp5 F0 f) (cp5 F1 f) a b c d n
  | 0 => rfl
  | n + 1 => by
    unfold gLe
    rw [List.map_append, gE_map, gLe_map a b c d n]
theorem gLd_map (a b c : Nat) : ∀ n, (gLd F0 F1 a b c n).map f = gLd (cp5 F0 f) (cp5 F1 f) a b c n
  | 0 => rfl
  | n + 1 => by
    unfold gLd
    rw [List.map_append, gLe_map, gLd_map a b c n]
theorem gLc_map (a b : Nat) : ∀ n, (gLc F0 F1 a b n).map f = gLc (cp5 F0 f) (cp5 F1 f) a b n
  | 0 => rfl
  | n + 1 => by
    unfold gLc
    rw [List.map_append, gLd_map, gLc_map a b n]
theorem gLb_map (a : Nat) : ∀ n, (gLb F0 F1 a n).map f = gLb (cp5 F0 f) (cp5 F1 f) a n
  | 0 => rfl
  | n + 1 => by
    unfold gLb
    rw [List.map_append, gLc_map, gLb_map a n]
theorem gLa_map : ∀ n, (gLa F0 F1 n).map f = gLa (cp5 F0 f) (cp5 F1 f) n
  | 0 => rfl
  | n + 1 => by
    unfold gLa
    rw [List.map_append, gLb_map, gLa_map n]
theorem gLe_in {z : α} {a b c d e : Nat} (he : e < 13) (h : z ∈ gE F0 F1 a b c d e) : ∀ n, 13 - n ≤ e → z ∈ gLe F0 F1 a b c d n
  | 0, h2 => absurd he (by omega)
  | n + 1, h2 => by
    unfold gLe
    rw [List.mem_append]
    by_cases e2 : e = 13 - (n + 1)
    · rw [← e2]
      exact Or.inl h
    · exact Or.inr (gLe_in he h n (by omega))
theorem gLd_in {z : α} {a b c d : Nat} (hd : d < 13) (h : z ∈ gLe F0 F1 a b c d (13 - d)) : ∀ n, n ≤ 13 → 13 - n ≤ d → z ∈ gLd F0 F1 a b c n
  | 0, _, h2 => absurd hd (by omega)
  | n + 1, hn, h2 => by
    unfold gLd
    rw [List.mem_append]
    by_cases e2 : d = 13 - (n + 1)
    · rw [show n + 1 = 13 - d by omega, show 13 - (13 - d) = d by omega]
      exact Or.inl h
    · exact Or.inr (gLd_in hd h n (by omega) (by omega))
theorem gLc_in {z : α} {a b c : Nat} (hc : c < 13) (h : z ∈ gLd F0 F1 a b c (13 - c)) : ∀ n, n ≤ 13 → 13 - n ≤ c → z ∈ gLc F0 F1 a b n
  | 0, _, h2 => absurd hc (by omega)
  | n + 1, hn, h2 => by
    unfold gLc
    rw [List.mem_append]
    by_cases e2 : c = 13 - (n + 1)
    · rw [show n + 1 = 13 - c by omega, show 13 - (13 - c) = c by omega]
      exact Or.inl h
    · exact Or.inr (gLc_in hc h n (by omega) (by omega))
theorem gLb_in {z : α} {a b : Nat} (hb : b < 13) (h : z ∈ gLc F0 F1 a b (13 - b)) : ∀ n, n ≤ 13 → 13 - n ≤ b → z ∈ gLb F0 F1 a n
  | 0, _, h2 => absurd hb (by omega)
  | n + 1, hn, h2 => by
    unfold gLb
    rw [List.mem_append]
    by_cases e2 : b = 13 - (n + 1)
    · rw [show n + 1 = 13 - b by omega, show 13 - (13 - b) = b by omega]
      exact Or.inl h
    · exact Or.inr (gLb_in hb h n (by omega) (by omega))
theorem gLa_in {z : α} {a : Nat} (ha : a < 13) (h : z ∈ gLb F0 F1 a (13 - a)) : ∀ n, n ≤ 13 → 13 - n ≤ a → z ∈ gLa F0 F1 n
  | 0, _, h2 => absurd ha (by omega)
  | n + 1, hn, h2 => by
    unfold gLa
    rw [List.mem_append]
    by_cases e2 : a = 13 - (n + 1)
    · rw [show n + 1 = 13 - a by omega, show 13 - (13 - a) = a by omega]
      exact Or.inl h
    · exact Or.inr (gLa_in ha h n (by omega) (by omega))
theorem g_in {z : α} {a b c d e : Nat} (h1 : a ≤ b) (h2 : b ≤ c) (h3 : c ≤ d) (h4 : d ≤ e) (he : e < 13) (h : z ∈ gE F0 F1 a b c d e) : z ∈ gLa F0 F1 13 :=
  gLa_in F0 F1 (by omega) (gLb_in F0 F1 (by omega) (gLc_in F0 F1 (by omega) (gLd_in F0 F1 (by omega) (gLe_in F0 F1 he h _ (by omega)) _ (by omega) (by omega)) _ (by omega) (by omega)) _ (by omega) (by omega)) _ (by omega) (by omega)
end
def K0 (a b c d e : Nat) : Int32 := k_key (k_oc (k_r5 (nI a) (nI b) (nI c) (nI d) (nI e))) 0
def K1 (a b c d e : Nat) : Int32 := k_key (k_oc (k_r5 (nI a) (nI b) (nI c) (nI d) (nI e))) 1
theorem kE_g {a b c d e : Nat} (ha : a < 13) (hb : b < 13) (hc : c < 13) (hd : d < 13) (he : e < 13) : kE1 (nI a) (nI b) (nI c) (nI d) (nI e) = gE K0 K1 a b c d e := by
  have le : ∀ {x y : Nat}, x < 13 → y < 13 → ((nI x ≤ nI y) ↔ x ≤ y) := fun hx hy => nI_leI (by omega) (by omega)
  unfold kE1 gE
  simp only [le ha hb, le he ha, le hb ha, le hc hb, le hd hc, le he hd]
  rfl
theorem kLe_g {a b c d : Nat} (ha : a < 13) (hb : b < 13) (hc : c < 13) (hd : d < 13) : ∀ n, n ≤ 13 → kLe (nI a) (nI b) (nI c) (nI d) n = gLe K0 K1 a b c d n
  | 0, _ => rfl
  | n + 1, hn => by
    unfold kLe gLe
    rw [kE_g ha hb hc hd (by omega), kLe_g ha hb hc hd n (by omega)]
theorem kLd_g {a b c : Nat} (ha : a < 13) (hb : b < 13) (hc : c < 13) : ∀ n, n ≤ 13 → kLd (nI a) (nI b) (nI c) n = gLd K0 K1 a b c n
  | 0, _ => rfl
  | n + 1, hn => by
    unfold kLd gLd
    rw [kLe_g ha hb hc (by omega) _ hn, kLd_g ha hb hc n (by omega)]
theorem kLc_g {a b : Nat} (ha : a < 13) (hb : b < 13) : ∀ n, n ≤ 13 → kLc (nI a) (nI b) n = gLc K0 K1 a b n
  | 0, _ => rfl
  | n + 1, hn => by
    unfold kLc gLc
    rw [kLd_g ha hb (by omega) _ hn, kLc_g ha hb n (by omega)]
theorem kLb_g {a : Nat} (ha : a < 13) : ∀ n, n ≤ 13 → kLb (nI a) n = gLb K0 K1 a n
  | 0, _ => rfl
  | n + 1, hn => by
    unfold kLb gLb
    rw [kLc_g ha (by omega) _ hn, kLb_g ha n (by omega)]
theorem kLa_g : ∀ n, n ≤ 13 → kLa n = gLa K0 K1 n
  | 0, _ => rfl
  | n + 1, hn => by
    unfold kLa gLa
    rw [kLb_g (by omega) _ hn, kLa_g n (by omega)]
/-- one card of the rank with bit p more -/
def ins (p O T H F : Nat) (k : Nat → Nat → Nat → Nat → Nat) : Nat :=
  bif bt O p then (bif bt T p then (bif bt H p then fo (Nat.add F p) (fun F => k O T H F) else fo (Nat.add H p) (fun H => k O T H F)) else fo (Nat.add T p) (fun T => k O T H F)) else fo (Nat.add O p) (fun O => k O T H F)
def v0 (a b c d e : Nat) : Nat :=
  fo (Nat.pow 2 a) (fun p => ins p 0 0 0 0 (fun O T H F => fo (Nat.pow 2 b) (fun p => ins p O T H F (fun O T H F => fo (Nat.pow 2 c) (fun p => ins p O T H F (fun O T H F => fo (Nat.pow 2 d) (fun p => ins p O T H F (fun O T H F => fo (Nat.pow 2 e) (fun p => ins p O T H F GN)))))))))
def v1 (a b c d e : Nat) : Nat :=
  fo (Nat.add (Nat.add (Nat.add (Nat.add (Nat.pow 2 a) (Nat.pow 2 b)) (Nat.pow 2 c)) (Nat.pow 2 d)) (Nat.pow 2 e)) FLN
def eqL : List Nat → List Nat → Bool
  | [], [] => true
  | a :: x, b :: y => bif Nat.beq a b then eqL x y else false
  | _, _ => false
theorem eqL_eq : ∀ (x y : List Nat), eqL x y = true → x = y
  | [], [], _ => rfl
  | a :: x, b :: y, h => by
    unfold eqL at h
    cases hb : Nat.beq a b with
    | true =>
      rw [hb] at h
      rw [Nat.eq_of_beq_eq_true hb, eqL_eq x y h]
    | false =>
      rw [hb] at h
      cases h
  | [], _ :: _, h => by cases h
  | _ :: _, [], h => by cases h
set_option maxRecDepth 100000 in
theorem od_ck : eqL (gLa v0 v1 13) od = true := by decide +kernel
