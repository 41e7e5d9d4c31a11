/-- the class counts bits -/
theorem bc_pop (x : Int64) : f_bc x = nI (pN (xN x) 64) := by
  obtain ⟨X, hX⟩ : ∃ X, xN x = X := ⟨_, rfl⟩
  have hlt : X < 2 ^ 64 := hX ▸ xN_lt x
  obtain ⟨L, hL⟩ : ∃ L, [X % 256, X / 256 % 256, X / 256 ^ 2 % 256, X / 256 ^ 3 % 256, X / 256 ^ 4 % 256, X / 256 ^ 5 % 256, X / 256 ^ 6 % 256, X / 256 ^ 7 % 256] = L := ⟨_, rfl⟩
  have hb : ∀ b ∈ L, b < 256 := by
    intro b hb
    rw [← hL] at hb
    simp only [List.mem_cons, List.not_mem_nil, or_false] at hb
    rcases hb with h | h | h | h | h | h | h | h <;> rw [h] <;> exact Nat.mod_lt _ (by decide)
  have hXL : X = by8 L := by rw [← hL]; exact by8_of X hlt
  have hlen : L.length = 8 := by rw [← hL]; rfl
  have hp := pc_bytes L hb
  rw [hlen, ← hXL] at hp
  have hs := pN_bytes L hb
  rw [hlen, ← hXL] at hs
  obtain ⟨a, ea⟩ : ∃ a, x - (ju x 1 &&& 6148914691236517205) = a := ⟨_, rfl⟩
  have ha : xN a = pA 8 X := by
    rw [← ea, xN_sub]
    · rw [xN_and, ju_N x 1 1 (by decide), hX]
      rfl
    · rw [xN_and, ju_N x 1 1 (by decide)]
      exact Nat.le_trans Nat.and_le_left (Nat.div_le_self _ _)
  obtain ⟨b, eb⟩ : ∃ b, (a &&& 3689348814741910323) + (ju a 2 &&& 3689348814741910323) = b := ⟨_, rfl⟩
  have hb2 : xN b = pB 8 (pA 8 X) := by
    have h1 : xN a &&& 3689348814741910323 ≤ 3689348814741910323 := Nat.and_le_right
    have h2 : xN a / 2 ^ 2 &&& 3689348814741910323 ≤ 3689348814741910323 := Nat.and_le_right
    have e1 : xN (a &&& 3689348814741910323) = xN a &&& 3689348814741910323 := xN_and _ _
    have e2 : xN (ju a 2 &&& 3689348814741910323) = xN a / 2 ^ 2 &&& 3689348814741910323 := by rw [xN_and, ju_N a 2 2 (by decide)]; rfl
    rw [← eb, xN_add (by rw [e1, e2]; omega), e1, e2, ha]
    rfl
  have hbl : pB 8 (pA 8 X) ≤ 2 * 3689348814741910323 := by
    unfold pB
    have h1 : pA 8 X &&& m3 8 ≤ m3 8 := Nat.and_le_right
    have h2 : pA 8 X / 4 &&& m3 8 ≤ m3 8 := Nat.and_le_right
    have h3 : m3 8 = 3689348814741910323 := rfl
    omega
  obtain ⟨c, ec⟩ : ∃ c, (b + ju b 4) &&& 1085102592571150095 = c := ⟨_, rfl⟩
  have hc : xN c = pC 8 (pB 8 (pA 8 X)) := by
    have e1 : xN (ju b 4) = xN b / 2 ^ 4 := ju_N b 4 4 (by decide)
    rw [← ec, xN_and, xN_add (by rw [e1, hb2]; omega), e1, hb2]
    rfl
  have hcL : xN c = by8 (L.map (fun b => pN b 8)) := hc.trans hp.2
  obtain ⟨d, ed⟩ : ∃ d, c + ju c 8 = d := ⟨_, rfl⟩
  obtain ⟨e, ee⟩ : ∃ e, d + ju d 16 = e := ⟨_, rfl⟩
  obtain ⟨f, ef⟩ : ∃ f, e + ju e 32 = f := ⟨_, rfl⟩
  have h8 : ∀ i, pN (X / 256 ^ i % 256) 8 ≤ 8 := fun i => (pc_byte _ (Nat.mod_lt _ (by decide))).2.2.2.2
  obtain ⟨d0, e0, f0, p1, p2, p3, p4, p5, p6, p7⟩ := pc_sum (pN (X % 256) 8) (pN (X / 256 % 256) 8) (pN (X / 256 ^ 2 % 256) 8) (pN (X / 256 ^ 3 % 256) 8) (pN (X / 256 ^ 4 % 256) 8) (pN (X / 256 ^ 5 % 256) 8) (pN (X / 256 ^ 6 % 256) 8) (pN (X / 256 ^ 7 % 256) 8) (pc_byte _ (Nat.mod_lt _ (by decide))).2.2.2.2 (pc_byte _ (Nat.mod_lt _ (by decide))).2.2.2.2 (h8 2) (h8 3) (h8 4) (h8 5) (h8 6) (h8 7)
  have hc0 : by8 [pN (X % 256) 8, pN (X / 256 % 256) 8, pN (X / 256 ^ 2 % 256) 8, pN (X / 256 ^ 3 % 256) 8, pN (X / 256 ^ 4 % 256) 8, pN (X / 256 ^ 5 % 256) 8, pN (X / 256 ^ 6 % 256) 8, pN (X / 256 ^ 7 % 256) 8] = xN c := by rw [hcL, ← hL]; rfl
  rw [hc0] at p1
  have hd : xN d = d0 := by
    have e1 : xN (ju c 8) = xN c / 2 ^ 8 := ju_N c 8 8 (by decide)
    rw [← ed, xN_add (by rw [e1, p1]; omega), e1, p1]
  have he : xN e = e0 := by
    have e1 : xN (ju d 16) = d0 / 2 ^ 16 := by rw [ju_N d 16 16 (by decide), hd]
    rw [← ee, xN_add (by rw [e1, hd, p2]; omega), e1, hd, p2]
  have hf : xN f = f0 := by
    have e1 : xN (ju e 32) = e0 / 2 ^ 32 := by rw [ju_N e 32 32 (by decide), he]
    rw [← ef, xN_add (by rw [e1, he, p3]; omega), e1, he, p3]
  have hfin : f_bc x = f.toInt32 &&& 127 := by
    rw [← ef, ← ee, ← ed, ← ec, ← eb, ← ea]
    rfl
  rw [hfin, pk_and f.toInt32 7 (by decide)]
  have h32 : f.toInt32.toBitVec.toNat % 2 ^ 7 = xN f % 128 := by
    unfold xN
    rw [Int64.toBitVec_toInt32, BitVec.signExtend_eq_setWidth_of_le _ (by decide), BitVec.toNat_setWidth]
    omega
  have hs2 : pN X 64 = pN (X % 256) 8 + pN (X / 256 % 256) 8 + pN (X / 256 ^ 2 % 256) 8 + pN (X / 256 ^ 3 % 256) 8 + pN (X / 256 ^ 4 % 256) 8 + pN (X / 256 ^ 5 % 256) 8 + pN (X / 256 ^ 6 % 256) 8 + pN (X / 256 ^ 7 % 256) 8 := by
    have h64 : pN X (8 * 8) = _ := hs
    rw [← hL] at h64
    simp only [List.map, List.sum_cons, List.sum_nil] at h64
    refine Eq.trans (show pN X 64 = pN X (8 * 8) from congrArg (pN X) rfl) ?_
    omega
  have h7 : pN X 64 ≤ 64 := by
    have g0 := (pc_byte (X % 256) (Nat.mod_lt _ (by decide))).2.2.2.2
    have g1 := (pc_byte (X / 256 % 256) (Nat.mod_lt _ (by decide))).2.2.2.2
    have g2 := h8 2
    have g3 := h8 3
    have g4 := h8 4
    have g5 := h8 5
    have g6 := h8 6
    have g7 := h8 7
    omega
  rw [h32, hf, hX]
  congr 1
  generalize pN X 64 = P at hs2 h7 ⊢
  omega
