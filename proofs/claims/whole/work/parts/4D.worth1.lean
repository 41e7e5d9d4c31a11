/-! worth, at all values -/
def wo_p (v : Nat) : Bool := Nat.ble 7462 v || decide (f_cat (nI v) + f_rowAt (f_cat (nI v)) (nI v - fi (f_cat (nI v))) = k_worth (nI (kv v)))
theorem ck_join {p : Nat → Bool} {d lo hi : Nat} (h1 : ck_B p d lo = true) (e : lo + 2 ^ d = hi) (h2 : ck_B p d hi = true) : ck_B p (d + 1) lo = true := by
  subst e
  simp only [ck_B, Bool.and_eq_true]
  exact ⟨h1, h2⟩
set_option maxRecDepth 100000 in
theorem wo_8_0 : ck_B wo_p 8 0 = true := by decide +kernel
set_option maxRecDepth 100000 in
theorem wo_8_256 : ck_B wo_p 8 256 = true := by decide +kernel
set_option maxRecDepth 100000 in
theorem wo_8_512 : ck_B wo_p 8 512 = true := by decide +kernel
set_option maxRecDepth 100000 in
theorem wo_8_768 : ck_B wo_p 8 768 = true := by decide +kernel
set_option maxRecDepth 100000 in
theorem wo_8_1024 : ck_B wo_p 8 1024 = true := by decide +kernel
set_option maxRecDepth 100000 in
theorem wo_8_1280 : ck_B wo_p 8 1280 = true := by decide +kernel
set_option maxRecDepth 100000 in
theorem wo_8_1536 : ck_B wo_p 8 1536 = true := by decide +kernel
set_option maxRecDepth 100000 in
theorem wo_8_1792 : ck_B wo_p 8 1792 = true := by decide +kernel
set_option maxRecDepth 100000 in
theorem wo_8_2048 : ck_B wo_p 8 2048 = true := by decide +kernel
set_option maxRecDepth 100000 in
theorem wo_8_2304 : ck_B wo_p 8 2304 = true := by decide +kernel
set_option maxRecDepth 100000 in
theorem wo_8_2560 : ck_B wo_p 8 2560 = true := by decide +kernel
set_option maxRecDepth 100000 in
theorem wo_8_2816 : ck_B wo_p 8 2816 = true := by decide +kernel
set_option maxRecDepth 100000 in
theorem wo_8_3072 : ck_B wo_p 8 3072 = true := by decide +kernel
set_option maxRecDepth 100000 in
theorem wo_8_3328 : ck_B wo_p 8 3328 = true := by decide +kernel
set_option maxRecDepth 100000 in
theorem wo_8_3584 : ck_B wo_p 8 3584 = true := by decide +kernel
set_option maxRecDepth 100000 in
theorem wo_8_3840 : ck_B wo_p 8 3840 = true := by decide +kernel
