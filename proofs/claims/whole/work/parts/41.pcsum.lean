/-! eight bytes are added up -/
theorem by8_div {b : Nat} (r : List Nat) (h : b < 256) : by8 (b :: r) / 256 = by8 r := by
  show (b + 256 * by8 r) / 256 = by8 r
  rw [Nat.add_mul_div_left _ _ (by decide), Nat.div_eq_of_lt h, Nat.zero_add]
theorem by8_div2 {a b : Nat} (r : List Nat) (h : a < 256) (h2 : b < 256) : by8 (a :: b :: r) / 2 ^ 16 = by8 r := by
  rw [show 2 ^ 16 = 256 * 256 from rfl, ← Nat.div_div_eq_div_mul, by8_div _ h, by8_div _ h2]
theorem by8_div4 {a b c d : Nat} (r : List Nat) (h : a < 256) (h2 : b < 256) (h3 : c < 256) (h4 : d < 256) : by8 (a :: b :: c :: d :: r) / 2 ^ 32 = by8 r := by
  rw [show 2 ^ 32 = 2 ^ 16 * 2 ^ 16 from rfl, ← Nat.div_div_eq_div_mul, by8_div2 _ h h2, by8_div2 _ h3 h4]
theorem by8_add : ∀ (x y : List Nat), x.length = y.length → by8 x + by8 y = by8 (List.zipWith (· + ·) x y)
  | [], [], _ => rfl
  | a :: x, b :: y, h => by
    have ih := by8_add x y (Nat.succ.inj h)
    show (a + 256 * by8 x) + (b + 256 * by8 y) = (a + b) + 256 * by8 (List.zipWith (· + ·) x y)
    rw [← ih]
    omega
theorem by8_z (x : List Nat) : by8 (x ++ [0]) = by8 x := by
  induction x with
  | nil => rfl
  | cons a x ih =>
    show a + 256 * by8 (x ++ [0]) = a + 256 * by8 x
    rw [ih]
theorem by8_lt : ∀ (x : List Nat), (∀ b ∈ x, b < 256) → by8 x < 256 ^ x.length
  | [], _ => by decide
  | a :: x, h => by
    have ih := by8_lt x (fun b hb => h b (List.mem_cons_of_mem _ hb))
    have ha := h a List.mem_cons_self
    show a + 256 * by8 x < 256 ^ (x.length + 1)
    rw [Nat.pow_succ]
    omega
theorem by8_mod {b : Nat} (r : List Nat) (h : b < 256) : by8 (b :: r) % 256 = b := by
  show (b + 256 * by8 r) % 256 = b
  rw [Nat.add_mul_mod_self_left, Nat.mod_eq_of_lt h]
theorem pc_sum (n0 n1 n2 n3 n4 n5 n6 n7 : Nat) (h0 : n0 ≤ 8) (h1 : n1 ≤ 8) (h2 : n2 ≤ 8) (h3 : n3 ≤ 8) (h4 : n4 ≤ 8) (h5 : n5 ≤ 8) (h6 : n6 ≤ 8) (h7 : n7 ≤ 8) :
    ∃ d e f, by8 [n0, n1, n2, n3, n4, n5, n6, n7] + by8 [n0, n1, n2, n3, n4, n5, n6, n7] / 2 ^ 8 = d ∧ d + d / 2 ^ 16 = e ∧ e + e / 2 ^ 32 = f ∧ d < 2 ^ 60 ∧ e < 2 ^ 60 ∧ f < 2 ^ 63 ∧ f % 256 = n0 + n1 + n2 + n3 + n4 + n5 + n6 + n7 := by
  have e1 : by8 [n0, n1, n2, n3, n4, n5, n6, n7] + by8 [n0, n1, n2, n3, n4, n5, n6, n7] / 2 ^ 8 = by8 [n0 + n1, n1 + n2, n2 + n3, n3 + n4, n4 + n5, n5 + n6, n6 + n7, n7] := by
    rw [show 2 ^ 8 = 256 from rfl, by8_div _ (by omega)]
    simp only [by8]
    omega
  have e2 : by8 [n0 + n1, n1 + n2, n2 + n3, n3 + n4, n4 + n5, n5 + n6, n6 + n7, n7] + by8 [n0 + n1, n1 + n2, n2 + n3, n3 + n4, n4 + n5, n5 + n6, n6 + n7, n7] / 2 ^ 16 = by8 [n0 + n1 + (n2 + n3), n1 + n2 + (n3 + n4), n2 + n3 + (n4 + n5), n3 + n4 + (n5 + n6), n4 + n5 + (n6 + n7), n5 + n6 + n7, n6 + n7 + 0, n7 + 0] := by
    rw [by8_div2 _ (by omega) (by omega)]
    simp only [by8]
    omega
  have e3 : by8 [n0 + n1 + (n2 + n3), n1 + n2 + (n3 + n4), n2 + n3 + (n4 + n5), n3 + n4 + (n5 + n6), n4 + n5 + (n6 + n7), n5 + n6 + n7, n6 + n7 + 0, n7 + 0] + by8 [n0 + n1 + (n2 + n3), n1 + n2 + (n3 + n4), n2 + n3 + (n4 + n5), n3 + n4 + (n5 + n6), n4 + n5 + (n6 + n7), n5 + n6 + n7, n6 + n7 + 0, n7 + 0] / 2 ^ 32 = by8 [n0 + n1 + (n2 + n3) + (n4 + n5 + (n6 + n7)), n1 + n2 + (n3 + n4) + (n5 + n6 + n7), n2 + n3 + (n4 + n5) + (n6 + n7 + 0), n3 + n4 + (n5 + n6) + (n7 + 0), n4 + n5 + (n6 + n7) + 0, n5 + n6 + n7 + 0, n6 + n7 + 0 + 0, n7 + 0 + 0] := by
    rw [by8_div4 _ (by omega) (by omega) (by omega) (by omega)]
    simp only [by8]
    omega
  refine ⟨_, _, _, e1, e2, e3, ?_, ?_, ?_, ?_⟩
  · simp only [by8]
    omega
  · simp only [by8]
    omega
  · simp only [by8]
    omega
  · rw [by8_mod _ (by omega)]
    omega
