/-! the keys that are made are those of the table -/
def mk_ck : List Int32 → List Nat → Bool
  | [], [] => true
  | k :: r, v :: w => decide (k = nI (kv v)) && mk_ck r w
  | _, _ => false
theorem mk_app : ∀ (A : List Int32) (x : List Nat) (B : List Int32) (y : List Nat), mk_ck A x = true → mk_ck B y = true → mk_ck (A ++ B) (x ++ y) = true
  | [], [], B, y, _, h => h
  | [], v :: x, B, y, h, _ => by cases h
  | k :: A, [], B, y, h, _ => by cases h
  | k :: A, v :: x, B, y, h, h2 => by
    simp only [mk_ck, Bool.and_eq_true] at h
    show mk_ck (k :: (A ++ B)) (v :: (x ++ y)) = true
    simp only [mk_ck, Bool.and_eq_true]
    exact ⟨h.1, mk_app A x B y h.2 h2⟩
theorem mk_map : ∀ (A : List Int32) (x : List Nat), mk_ck A x = true → A = x.map (fun v => nI (kv v))
  | [], [], _ => rfl
  | [], v :: x, h => by cases h
  | k :: A, [], h => by cases h
  | k :: A, v :: x, h => by
    simp only [mk_ck, Bool.and_eq_true, decide_eq_true_eq] at h
    rw [h.1, mk_map A x h.2]
    rfl
theorem mk_seq {A B : List Int32} {x k m x2 : Nat} (h1 : mk_ck A ((od.drop x).take k) = true) (hx : x + k = x2) (h2 : mk_ck B ((od.drop x2).take m) = true) : mk_ck (A ++ B) ((od.drop x).take (k + m)) = true := by
  rw [List.take_add, List.drop_drop, hx]
  exact mk_app _ _ _ _ h1 h2
theorem kLa_S (n : Nat) : kLa (n + 1) = kLb (nI (13 - (n + 1))) (n + 1) ++ kLa n := rfl
theorem kLb_S (a : Int32) (n : Nat) : kLb a (n + 1) = kLc a (nI (13 - (n + 1))) (n + 1) ++ kLb a n := rfl
theorem mk_0 (x : Nat) : mk_ck [] ((od.drop x).take 0) = true := by rw [List.take_zero]; rfl
