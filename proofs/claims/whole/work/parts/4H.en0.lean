/-! six and seven cards: the value is the greatest of those without one card -/
def bt (S p : Nat) : Bool := Nat.beq (Nat.mod (Nat.div S p) 2) 1
/-- the value without one card of the rank whose bit is p -/
def er (O T H F p : Nat) : Nat :=
  bif bt F p then GN O T H (Nat.sub F p) else bif bt H p then GN O T (Nat.sub H p) F else bif bt T p then GN O (Nat.sub T p) H F else GN (Nat.sub O p) T H F
def mo (g O T H F : Nat) (k : Nat) : Bool → Bool :=
  Nat.rec (motive := fun _ => Bool → Bool) (fun a => a) (fun r ih a => fo (Nat.pow 2 r) (fun p => bif bt O p then fo (er O T H F p) (fun e => bif Nat.ble e g then ih (bif Nat.beq e g then true else a) else false) else ih a)) k
def lf (N d O T H F : Nat) : Bool :=
  fo (GN O T H F) (fun g => bif Nat.ble (Nat.succ g) 7462 then (bif Nat.ble N (Nat.add d 2) then (bif noFF T H F then Nat.ble (Nat.succ g) 5863 else false) else true) && (bif Nat.beq N 5 then true else mo g O T H F 13 false) else false)
def en (N : Nat) (k : Nat) : Nat → Nat → Nat → Nat → Nat → Nat → Bool :=
  Nat.rec (motive := fun _ => Nat → Nat → Nat → Nat → Nat → Nat → Bool)
    (fun n d O T H F => bif Nat.beq n 0 then lf N d O T H F else true)
    (fun k ih n d O T H F => bif Nat.beq n 0 then lf N d O T H F else bif Nat.ble n (Nat.mul 4 (Nat.succ k)) then fo (Nat.pow 2 k) (fun p =>
      ih n d O T H F && fo (Nat.succ d) (fun d => fo (Nat.add O p) (fun O => ih (Nat.sub n 1) d O T H F &&
        (bif Nat.ble 2 n then fo (Nat.add T p) (fun T => ih (Nat.sub n 2) d O T H F &&
          (bif Nat.ble 3 n then fo (Nat.add H p) (fun H => ih (Nat.sub n 3) d O T H F &&
            (bif Nat.ble 4 n then fo (Nat.add F p) (fun F => ih (Nat.sub n 4) d O T H F) else true)) else true)) else true)))) else true) k
theorem ble_d (a b : Nat) : Nat.ble a b = decide (a ≤ b) := by
  by_cases h : a ≤ b
  · rw [decide_eq_true h]
    exact Nat.ble_eq.mpr h
  · rw [decide_eq_false h]
    exact Bool.eq_false_iff.mpr (fun y => h (Nat.ble_eq.mp y))
theorem cond_t {c a : Bool} : (bif c then a else true) = true ↔ (c = true → a = true) := by
  cases c <;> simp
theorem en_S (N k n d O T H F : Nat) (hn : n ≠ 0) : en N (k + 1) n d O T H F = true ↔ (n ≤ 4 * (k + 1) → en N k n d O T H F = true ∧ en N k (n - 1) (d + 1) (O + 2 ^ k) T H F = true ∧ (2 ≤ n → en N k (n - 2) (d + 1) (O + 2 ^ k) (T + 2 ^ k) H F = true ∧ (3 ≤ n → en N k (n - 3) (d + 1) (O + 2 ^ k) (T + 2 ^ k) (H + 2 ^ k) F = true ∧ (4 ≤ n → en N k (n - 4) (d + 1) (O + 2 ^ k) (T + 2 ^ k) (H + 2 ^ k) (F + 2 ^ k) = true)))) := by
  have e : en N (k + 1) n d O T H F = (bif Nat.beq n 0 then lf N d O T H F else bif Nat.ble n (Nat.mul 4 (Nat.succ k)) then fo (Nat.pow 2 k) (fun p =>
      en N k n d O T H F && fo (Nat.succ d) (fun d => fo (Nat.add O p) (fun O => en N k (Nat.sub n 1) d O T H F &&
        (bif Nat.ble 2 n then fo (Nat.add T p) (fun T => en N k (Nat.sub n 2) d O T H F &&
          (bif Nat.ble 3 n then fo (Nat.add H p) (fun H => en N k (Nat.sub n 3) d O T H F &&
            (bif Nat.ble 4 n then fo (Nat.add F p) (fun F => en N k (Nat.sub n 4) d O T H F) else true)) else true)) else true)))) else true) := rfl
  rw [e, bq0, decide_eq_false hn]
  simp only [fo_eq, cond_false, cond_t, ble_d, decide_eq_true_iff, Bool.and_eq_true]
  rfl
set_option maxRecDepth 100000 in
theorem en5 : en 5 13 5 0 0 0 0 0 = true := by decide +kernel
set_option maxRecDepth 100000 in
theorem en6 : en 6 13 6 0 0 0 0 0 = true := by decide +kernel
