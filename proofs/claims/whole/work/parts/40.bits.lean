/-! bits of longs as numbers -/
def xN (x : Int64) : Nat := x.toBitVec.toNat
theorem xN_lt (x : Int64) : xN x < 2 ^ 64 := x.toBitVec.isLt
theorem xN_inj {x y : Int64} (h : xN x = xN y) : x = y := Int64.toBitVec_inj.mp (BitVec.eq_of_toNat_eq h)
theorem xN_or (x y : Int64) : xN (x ||| y) = xN x ||| xN y := by
  unfold xN
  rw [Int64.toBitVec_or, BitVec.toNat_or]
theorem xN_and (x y : Int64) : xN (x &&& y) = xN x &&& xN y := by
  unfold xN
  rw [Int64.toBitVec_and, BitVec.toNat_and]
theorem xN_xor (x y : Int64) : xN (x ^^^ y) = xN x ^^^ xN y := by
  unfold xN
  rw [Int64.toBitVec_xor, BitVec.toNat_xor]
theorem xN_0 {x : Int64} : x = 0 ↔ xN x = 0 := ⟨fun h => by rw [h]; rfl, fun h => xN_inj (by rw [h]; rfl)⟩
theorem nI_l64 {c : Nat} (h : c < 64) : ((nI c).toInt64 &&& 63).toBitVec.toNat = c := by
  revert h
  revert c
  decide +kernel
theorem sh_smod : ∀ c, c < 64 → (((nI c).toInt64 &&& 63).toBitVec.smod 64).toNat = c := by decide +kernel
theorem sh_umod : ∀ c, c < 64 → (((nI c).toInt64 &&& 63).toUInt64 % 64).toNat = c := by decide +kernel
theorem jl_N {c : Nat} (h : c < 64) : xN (jl 1 (nI c)) = 2 ^ c := by
  revert h
  revert c
  decide +kernel
theorem jr_N (x : Int64) {c : Nat} (h : c < 64) : xN (jr x (nI c) &&& 1) = xN x / 2 ^ c % 2 := by
  rw [xN_and]
  unfold jr xN
  rw [show (1 : Int64).toBitVec.toNat = 1 from rfl, Nat.and_one_is_mod]
  rw [show (x >>> ((nI c).toInt64 &&& 63)).toBitVec = x.toBitVec.sshiftRight c by rw [Int64.toBitVec_shiftRight, BitVec.sshiftRight', sh_smod c h]]
  have h1 : ((x.toBitVec.sshiftRight c).toNat % 2 = 1) = ((x.toBitVec.sshiftRight c).getLsbD 0 = true) := by
    rw [BitVec.getLsbD, Nat.testBit_zero]
    simp
  have h2 : (x.toBitVec.sshiftRight c).getLsbD 0 = x.toBitVec.getLsbD c := by
    rw [BitVec.getLsbD_sshiftRight]
    simp [h]
  rw [h2, BitVec.getLsbD, Nat.testBit_eq_decide_div_mod_eq] at h1
  have h3 : (x.toBitVec.sshiftRight c).toNat % 2 = 1 ↔ x.toBitVec.toNat / 2 ^ c % 2 = 1 := by
    rw [h1]
    simp
  omega
/-- the bit of card c -/
theorem jr_1 (x : Int64) {c : Nat} (h : c < 64) : jr x (nI c) &&& 1 = 1 ↔ xN x / 2 ^ c % 2 = 1 := by
  rw [← jr_N x h]
  exact ⟨fun e => by rw [e]; rfl, fun e => xN_inj (by rw [e]; rfl)⟩
def bN (X c : Nat) : Nat := X / 2 ^ c % 2
theorem bN_lt (X c : Nat) : bN X c < 2 := Nat.mod_lt _ (by decide)
/-- how many of the first n bits are set -/
def pN (X : Nat) : Nat → Nat
  | 0 => 0
  | n + 1 => pN X n + bN X n
theorem pN_S (X n : Nat) : pN X (n + 1) = pN X n + bN X n := rfl
theorem kh_pN (x : Int64) : ∀ n, n ≤ 64 → kh_c x n + pN (xN x) (64 - n) = pN (xN x) 64
  | 0, _ => by
    rw [Nat.sub_zero]
    exact Nat.zero_add _
  | n + 1, h => by
    have ih := kh_pN x n (by omega)
    have e : pN (xN x) (64 - n) = pN (xN x) (64 - (n + 1)) + bN (xN x) (64 - (n + 1)) := by
      rw [← pN_S]
      congr 1
      omega
    have hb := jr_1 x (c := 64 - (n + 1)) (by omega)
    have hl := bN_lt (xN x) (64 - (n + 1))
    have hk : kh_c x (n + 1) = (if jr x (nI (64 - (n + 1))) &&& 1 = 1 then 1 else 0) + kh_c x n := rfl
    rw [hk]
    generalize pN (xN x) 64 = P at ih ⊢
    by_cases hc : jr x (nI (64 - (n + 1))) &&& 1 = 1
    · rw [if_pos hc]
      have : bN (xN x) (64 - (n + 1)) = 1 := hb.mp hc
      omega
    · rw [if_neg hc]
      have : ¬ bN (xN x) (64 - (n + 1)) = 1 := fun z => hc (hb.mpr z)
      omega
theorem kh_pop (x : Int64) : kh_c x 64 = pN (xN x) 64 := by
  have := kh_pN x 64 (Nat.le_refl _)
  rw [Nat.sub_self, show pN (xN x) 0 = 0 from rfl, Nat.add_zero] at this
  exact this
/-! the class's bit count -/
def m5 : Nat → Nat
  | 0 => 0
  | k + 1 => 85 + 256 * m5 k
def m3 : Nat → Nat
  | 0 => 0
  | k + 1 => 51 + 256 * m3 k
def mf : Nat → Nat
  | 0 => 0
  | k + 1 => 15 + 256 * mf k
def pA (k X : Nat) : Nat := X - (X / 2 &&& m5 k)
def pB (k X : Nat) : Nat := (X &&& m3 k) + (X / 4 &&& m3 k)
def pC (k X : Nat) : Nat := (X + X / 16) &&& mf k
theorem an8 (a b c d : Nat) (hb : b < 256) (hd : d < 256) : (b + 256 * a) &&& (d + 256 * c) = (b &&& d) + 256 * (a &&& c) := an_split 8 a b c d hb hd
/-- a mask that has no bit 7 doesn't see the next byte -/
theorem an7 (m : Nat) : ∀ b, b < 256 → ∀ t, t < 2 → m < 128 → ((b / 2 + 128 * t) &&& m) = (b / 2 &&& m) := by
  intro b hb t ht hm
  have h1 := an_split 7 t (b / 2) 0 m (by omega) hm
  rw [Nat.and_zero, Nat.mul_zero, Nat.add_zero, Nat.add_zero] at h1
  exact h1
theorem pA_S (k b Y : Nat) (hb : b < 256) : pA (k + 1) (b + 256 * Y) = pA 1 b + 256 * pA k Y := by
  unfold pA
  have e1 : (b + 256 * Y) / 2 = (b / 2 + 128 * (Y % 2)) + 256 * (Y / 2) := by omega
  have e2 : (b + 256 * Y) / 2 &&& m5 (k + 1) = (b / 2 &&& 85) + 256 * (Y / 2 &&& m5 k) := by
    rw [e1, m5, an8 _ _ _ _ (by omega) (by decide), an7 85 b hb (Y % 2) (by omega) (by decide)]
  have e3 : b / 2 &&& m5 1 = b / 2 &&& 85 := rfl
  have h1 : b / 2 &&& 85 ≤ b / 2 := Nat.and_le_left
  have h2 : Y / 2 &&& m5 k ≤ Y / 2 := Nat.and_le_left
  rw [e2, e3]
  omega
theorem an6 (b t : Nat) (hb : b < 256) (ht : t < 4) : ((b / 4 + 64 * t) &&& 51) = (b / 4 &&& 51) := by
  have h1 := an_split 6 t (b / 4) 0 51 (by omega) (by decide)
  rw [Nat.and_zero, Nat.mul_zero, Nat.add_zero, Nat.add_zero] at h1
  exact h1
theorem pB_S (k b Y : Nat) (hb : b < 256) : pB (k + 1) (b + 256 * Y) = pB 1 b + 256 * pB k Y := by
  unfold pB
  have e1 : (b + 256 * Y) / 4 = (b / 4 + 64 * (Y % 4)) + 256 * (Y / 4) := by omega
  have e2 : (b + 256 * Y) / 4 &&& m3 (k + 1) = (b / 4 &&& 51) + 256 * (Y / 4 &&& m3 k) := by
    rw [e1, m3, an8 _ _ _ _ (by omega) (by decide), an6 b (Y % 4) hb (by omega)]
  have e3 : (b + 256 * Y) &&& m3 (k + 1) = (b &&& 51) + 256 * (Y &&& m3 k) := by
    rw [m3, an8 _ _ _ _ hb (by decide)]
  have e4 : b / 4 &&& m3 1 = b / 4 &&& 51 := rfl
  have e5 : b &&& m3 1 = b &&& 51 := rfl
  rw [e2, e3, e4, e5]
  omega
theorem an4 (u t : Nat) (hu : u < 256) (hs : u + 16 * t < 256) : ((u + 16 * t) &&& 15) = (u &&& 15) := by
  have h1 := an_split 4 (u / 16 + t) (u % 16) 0 15 (by omega) (by decide)
  have h2 := an_split 4 (u / 16) (u % 16) 0 15 (by omega) (by decide)
  rw [Nat.and_zero, Nat.mul_zero, Nat.add_zero, Nat.add_zero] at h1 h2
  rw [show u % 16 + 2 ^ 4 * (u / 16 + t) = u + 16 * t by omega] at h1
  rw [show u % 16 + 2 ^ 4 * (u / 16) = u by omega] at h2
  rw [h1, h2]
/-- where every byte is small enough -/
theorem pC_S (k b Y : Nat) (hb : b ≤ 68) (hY : Y % 16 ≤ 4) : pC (k + 1) (b + 256 * Y) = pC 1 b + 256 * pC k Y := by
  unfold pC
  have e1 : (b + 256 * Y) + (b + 256 * Y) / 16 = ((b + b / 16) + 16 * (Y % 16)) + 256 * (Y + Y / 16) := by omega
  have e4 : (b + b / 16) &&& mf 1 = (b + b / 16) &&& 15 := rfl
  rw [e1, mf, an8 _ _ _ _ (by omega) (by decide), an4 (b + b / 16) (Y % 16) (by omega) (by omega), e4]
theorem pN_split (b Y : Nat) (hb : b < 256) : ∀ n, pN (b + 256 * Y) (8 + n) = pN b 8 + pN Y n
  | 0 => by
    have h : ∀ n, n ≤ 8 → pN (b + 256 * Y) n = pN b n := by
      intro n
      induction n with
      | zero => intro _; rfl
      | succ n ih =>
        intro hn
        rw [pN_S, pN_S, ih (by omega)]
        congr 1
        unfold bN
        have e : 256 = 2 ^ n * 2 ^ (8 - n) := by rw [← Nat.pow_add, show n + (8 - n) = 8 by omega]
        rw [e, Nat.mul_assoc, Nat.add_mul_div_left _ _ (Nat.two_pow_pos n), show 8 - n = (7 - n) + 1 by omega, Nat.pow_succ, Nat.mul_comm (2 ^ (7 - n)) 2, Nat.mul_assoc, Nat.add_mul_mod_self_left]
    exact (h 8 (Nat.le_refl _)).trans (Nat.add_zero _).symm
  | n + 1 => by
    rw [show 8 + (n + 1) = (8 + n) + 1 by omega, pN_S _ (8 + n), pN_S Y n, pN_split b Y hb n, ← Nat.add_assoc]
    congr 1
    unfold bN
    rw [Nat.pow_add, ← Nat.div_div_eq_div_mul, show (b + 256 * Y) / 2 ^ 8 = Y by omega]
theorem pc_byte : ∀ b, b < 256 → pA 1 b < 256 ∧ pB 1 (pA 1 b) ≤ 68 ∧ pB 1 (pA 1 b) % 16 ≤ 4 ∧ pC 1 (pB 1 (pA 1 b)) = pN b 8 ∧ pN b 8 ≤ 8 := by decide +kernel
/-- bytes, the lowest first, as one number -/
def by8 : List Nat → Nat
  | [] => 0
  | b :: r => b + 256 * by8 r
theorem pc_bytes : ∀ (L : List Nat), (∀ b ∈ L, b < 256) → pB L.length (pA L.length (by8 L)) % 16 ≤ 4 ∧ pC L.length (pB L.length (pA L.length (by8 L))) = by8 (L.map (fun b => pN b 8))
  | [], _ => ⟨by decide, by decide⟩
  | b :: r, h => by
    obtain ⟨i1, i2⟩ := pc_bytes r (fun x hx => h x (List.mem_cons_of_mem _ hx))
    obtain ⟨c1, c2, c3, c4, -⟩ := pc_byte b (h b List.mem_cons_self)
    show pB (r.length + 1) (pA (r.length + 1) (b + 256 * by8 r)) % 16 ≤ 4 ∧ pC (r.length + 1) (pB (r.length + 1) (pA (r.length + 1) (b + 256 * by8 r))) = pN b 8 + 256 * by8 (r.map (fun b => pN b 8))
    rw [pA_S _ _ _ (h b List.mem_cons_self), pB_S _ _ _ c1, pC_S _ _ _ c2 i1, c4, i2]
    exact ⟨by omega, rfl⟩
theorem by8_of (X : Nat) (h : X < 2 ^ 64) : X = by8 [X % 256, X / 256 % 256, X / 256 ^ 2 % 256, X / 256 ^ 3 % 256, X / 256 ^ 4 % 256, X / 256 ^ 5 % 256, X / 256 ^ 6 % 256, X / 256 ^ 7 % 256] := by
  simp only [by8]
  omega
theorem pN_bytes : ∀ (L : List Nat), (∀ b ∈ L, b < 256) → pN (by8 L) (8 * L.length) = (L.map (fun b => pN b 8)).sum
  | [], _ => rfl
  | b :: r, h => by
    show pN (b + 256 * by8 r) (8 * (r.length + 1)) = pN b 8 + (r.map (fun b => pN b 8)).sum
    rw [show 8 * (r.length + 1) = 8 + 8 * r.length by omega, pN_split _ _ (h b List.mem_cons_self), pN_bytes r (fun x hx => h x (List.mem_cons_of_mem _ hx))]
theorem ju_N (x : Int64) (y : Int32) (k : Nat) (h : (y.toInt64.toUInt64 &&& Int64.toUInt64 63).toBitVec.toNat % 64 = k) : xN (ju x y) = xN x / 2 ^ k := by
  unfold ju xN
  show (x.toUInt64 >>> (y.toInt64.toUInt64 &&& Int64.toUInt64 63)).toBitVec.toNat = _
  rw [UInt64.toBitVec_shiftRight]
  show (x.toBitVec >>> ((y.toInt64.toUInt64 &&& Int64.toUInt64 63).toBitVec % 64)).toNat = _
  rw [BitVec.ushiftRight_eq', BitVec.toNat_ushiftRight, BitVec.toNat_umod, Nat.shiftRight_eq_div_pow]
  rw [show (64 : BitVec 64).toNat = 64 from rfl, h]
theorem xN_sub {x y : Int64} (h : xN y ≤ xN x) : xN (x - y) = xN x - xN y := by
  unfold xN at *
  rw [Int64.toBitVec_sub, BitVec.toNat_sub]
  have := x.toBitVec.isLt
  omega
theorem xN_add {x y : Int64} (h : xN x + xN y < 2 ^ 64) : xN (x + y) = xN x + xN y := by
  unfold xN at *
  rw [Int64.toBitVec_add, BitVec.toNat_add]
  omega
