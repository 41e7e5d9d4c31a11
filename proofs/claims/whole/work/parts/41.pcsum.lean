/-! eight bytes are added up -/
theorem by8_div {b : Nat} (r : List Nat) (h : b < 256) : by8 (b :: r) / 256 = by8 r := by
  show (b + 256 * by8 r) / 256 = by8 r
  rw [Nat.add_mul_div_left _ _ (by decide), Nat.div_eq_of_lt h, Nat.zero_add]
theorem by8_div2 {a b : Nat} (r : List Nat) (h : a < 256) (h2 : b < 256) : by8 (a :: b :: r) / 2 ^ 16 = by8 r := by
  rw [show 2 ^ 16 = 256 * 256 from rfl, ← Nat.div_div_eq_div_mul, by8_div _ h, by8_div _ h2]
theorem by8_div4 {a b c d : Nat} (r : List Nat) (h : a < 256) (h2 : b < 256) (h3 : c < 256) (h4 : d < 256) : by8 (a :: b :: c :: d :: r) / 2 ^ 32 = by8 r := by
  rw [show 2 ^ 32 = 2 ^ 16 * 2 ^ 16 from rfl, ← Nat.div_div_eq_div_mul, by8_div2 _ h h2, by8_div2 _ h3 h4]
theorem by8_add : ∀ (x y : List Nat), x.length = y.length → by8 x + by8 y = by8 (List.zipWith (· + ·) x y)
  | [], [], _ => rfl
  | a :: x, b :: y, h => by
    have ih := by8_add x y (Nat.succ.inj h)
    show (a + 256 * by8 x) + (b + 256 * by8 y) = (a + b) + 256 * by8 (List.zipWith (· + ·) x y)
    rw [← ih]
    omega
theorem by8_z (x : List Nat) : by8 (x ++ [0]) = by8 x := by
  induction x with
  | nil => rfl
  | cons a x ih =>
    show a + 256 * by8 (x ++ [0]) = a + 256 * by8 x
    rw [ih]
theorem by8_lt : ∀ (x : List Nat), (∀ b ∈ x, b < 256) → by8 x < 256 ^ x.length
  | [], _ => by decide
  | a :: x, h => by
    have ih := by8_lt x (fun b hb => h b (List.mem_cons_of_mem _ hb))
    have ha := h a List.mem_cons_self
    show a + 256 * by8 x < 256 ^ (x.length + 1)
    rw [Nat.pow_succ]
    omega
theorem by8_mod {b : Nat} (r : List Nat) (h : b < 256) : by8 (b :: r) % 256 = b := by
  show (b + 256 * by8 r) % 256 = b
  rw [Nat.add_mul_mod_self_left, Nat.mod_eq_of_lt h]
