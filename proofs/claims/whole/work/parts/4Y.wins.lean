/-! wins and shares: class and model -/
section
variable {T : Nat → Int64} {ck : Nat → Int32} {cn : Int32} {ks se bd dk wi sh : Nat → Int32} {ct : Int32} {b j : Nat}
theorem fL_mem (r : Int64) (h : in52 r) (c : Nat) : c ∈ fL r 52 ↔ mem r c := by
  rw [sl_mem _ _ _ _ _ (Nat.le_refl _)]
  constructor
  · intro ⟨i, _, _, h3, h4⟩
    have h4 : i = c := h4
    rw [← h4]
    exact h3
  · intro hm
    exact ⟨c, by omega, h c hm, hm, rfl⟩
theorem fL_nd (r : Int64) : (fL r 52).Nodup := sl_nd (fun i j _ _ e => e) _ 52 (Nat.le_refl _)
theorem fL_len (r : Int64) : ∀ n, n ≤ 52 → (fL r n).length ≤ n
  | 0, _ => Nat.le_refl _
  | n + 1, h => by
    have ih := fL_len r n (by omega)
    have e : fL r (n + 1) = if (xN r).testBit (52 - (n + 1)) = true then (52 - (n + 1)) :: fL r n else fL r n := rfl
    rw [e]
    split
    · rw [List.length_cons]
      omega
    · omega
theorem free_in (hI : iv_ok T ck cn ks se bd b dk j ct wi sh) : in52 (g_free T) := fun c hc => ((free_mem hI c).mp hc).1
theorem kf_sl (hI : iv_ok T ck cn ks se bd b dk j ct wi sh) : ∀ (n z : Nat) (f : Nat → Int32), n ≤ 52 → z + n ≤ 52 → (kf_lp se bd b n (nI z) f).1 = nI (z + (fL (g_free T) n).length) ∧ (∀ i, i < z → (kf_lp se bd b n (nI z) f).2 i = f i) ∧ ∀ i, i < (fL (g_free T) n).length → (kf_lp se bd b n (nI z) f).2 (z + i) = nI ((fL (g_free T) n).getD i 0) := by
  intro n
  induction n with
  | zero =>
    intro z f _ _
    exact ⟨rfl, fun i _ => rfl, fun i hi => absurd hi (by unfold fL sl; simp)⟩
  | succ n ih =>
    intro z f hn hz
    have hm := free_mem hI (52 - (n + 1))
    have e : fL (g_free T) (n + 1) = if (xN (g_free T)).testBit (52 - (n + 1)) = true then (52 - (n + 1)) :: fL (g_free T) n else fL (g_free T) n := rfl
    rw [e]
    unfold kf_lp
    by_cases h : (xN (g_free T)).testBit (52 - (n + 1)) = true
    · rw [if_pos h, if_pos (hm.mp h).2, nI_1, nI_clamp (n := z) (by omega)]
      obtain ⟨i0, i1, i2⟩ := ih (z + 1) (upd f z (nI (52 - (n + 1)))) (by omega) (by omega)
      refine ⟨?_, fun i hi => ?_, fun i hi => ?_⟩
      · rw [i0, List.length_cons]
        congr 1
        omega
      · rw [i1 i (by omega), pk_un (by omega)]
      · cases i with
        | zero =>
          have q := i1 z (by omega)
          rw [pk_us] at q
          exact q
        | succ i =>
          rw [List.length_cons] at hi
          rw [show z + (i + 1) = z + 1 + i by omega, i2 i (by omega)]
          rfl
    · rw [if_neg h, if_neg (fun w => h (hm.mpr ⟨by omega, w⟩))]
      exact ih z f (by omega) (by omega)
theorem left_at (hI : iv_ok T ck cn ks se bd b dk j ct wi sh) (z : Nat → Int32) : (k_left se bd b z).1.toNatClampNeg = (fL (g_free T) 52).length ∧ ∀ i, i < (fL (g_free T) 52).length → (k_left se bd b z).2 i = nI ((fL (g_free T) 52).getD i 0) := by
  obtain ⟨i0, -, i2⟩ := kf_sl hI 52 0 z (Nat.le_refl _) (by decide)
  have hl := fL_len (g_free T) 52 (Nat.le_refl _)
  rw [Nat.zero_add] at i0
  refine ⟨?_, fun i hi => ?_⟩
  · show (kf_lp se bd b 52 (nI 0) z).1.toNatClampNeg = _
    rw [i0, nI_clamp (by omega)]
  · have := i2 i hi
    rw [Nat.zero_add] at this
    exact this
theorem drop_at {L : List Nat} {i : Nat} (h : i < L.length) : L.drop i = L.getD i 0 :: L.drop (i + 1) := by
  rw [List.drop_eq_getElem_cons h, List.getD_eq_getElem?_getD, List.getElem?_eq_getElem h]
  rfl
theorem lead_1 (hI : iv_ok T ck cn ks se bd b dk j ct wi sh) (hb : b = 4) {c : Nat} (hc : mem (g_free T) c) : k_lead se bd b (nI c) (-1) = g_lead T (T 6 ||| jl 1 (nI c)) := by
  have h52 := free_in hI c hc
  exact (lead_n hI (mayE_1 hI (by omega) (by omega) hc) (w := T 6 ||| jl 1 (nI c)) (fun d => by rw [mem_or, mem_bit (by omega), List.mem_singleton])).symm
theorem lead_2 (hI : iv_ok T ck cn ks se bd b dk j ct wi sh) (hb : b = 3) {c d : Nat} (hc : mem (g_free T) c) (hd : mem (g_free T) d) (hne : c ≠ d) : k_lead se bd b (nI c) (nI d) = g_lead T (T 6 ||| jl 1 (nI c) ||| jl 1 (nI d)) := by
  have h52 := free_in hI c hc
  have h53 := free_in hI d hd
  exact (lead_n hI (mayE_2 hI hb hc hd hne) (w := T 6 ||| jl 1 (nI c) ||| jl 1 (nI d)) (fun e => by
    rw [mem_or, mem_or, mem_bit (by omega), mem_bit (by omega), List.mem_cons, List.mem_singleton, or_assoc])).symm
/-- what the class counts for the board w at seat q -/
def oT (T : Nat → Int64) (q : Nat) (o : Int32) (w : Int64) : Int32 := ocm (nI q) o (g_lead T w)
theorem cnt_T {q : Nat} (hq : q < 6) (w : Int64) (x y : Nat → Int32) : (k_cnt (g_lead T w) x y).1 q = x q + oT T q 0 w ∧ (k_cnt (g_lead T w) x y).2 q = y q + oT T q 1 w := by
  obtain ⟨X, hX, e⟩ := lead_64 T w
  unfold oT
  rw [e]
  exact cntq hX hq x y
theorem kN4_at (hI : iv_ok T ck cn ks se bd 4 dk j ct wi sh) {z : Nat → Int32} {q : Nat} (hq : q < 6) (hz : ∀ i, i < (fL (g_free T) 52).length → z i = nI ((fL (g_free T) 52).getD i 0)) : ∀ (n : Nat) (w y : Nat → Int32), n ≤ (fL (g_free T) 52).length → (kN4 se bd z (fL (g_free T) 52).length n w y).1 q = accL (fun c => oT T q 0 (T 6 ||| jl 1 (nI c))) (w q) ((fL (g_free T) 52).drop ((fL (g_free T) 52).length - n)) ∧ (kN4 se bd z (fL (g_free T) 52).length n w y).2 q = accL (fun c => oT T q 1 (T 6 ||| jl 1 (nI c))) (y q) ((fL (g_free T) 52).drop ((fL (g_free T) 52).length - n)) := by
  have hl := fL_len (g_free T) 52 (Nat.le_refl _)
  intro n
  induction n with
  | zero =>
    intro w y _
    rw [Nat.sub_zero, List.drop_length]
    exact ⟨rfl, rfl⟩
  | succ n ih =>
    intro w y hn
    have hlt : (fL (g_free T) 52).length - (n + 1) < (fL (g_free T) 52).length := by omega
    have hm : mem (g_free T) ((fL (g_free T) 52).getD ((fL (g_free T) 52).length - (n + 1)) 0) := (fL_mem _ (free_in hI) _).mp ((getD_mem _).mpr ⟨_, hlt, rfl⟩)
    unfold kN4
    rw [nI_clamp (by omega), hz _ hlt, drop_at hlt, show (fL (g_free T) 52).length - (n + 1) + 1 = (fL (g_free T) 52).length - n by omega, lead_1 hI rfl hm]
    obtain ⟨c1, c2⟩ := cnt_T hq (T 6 ||| jl 1 (nI ((fL (g_free T) 52).getD ((fL (g_free T) 52).length - (n + 1)) 0))) w y
    obtain ⟨i1, i2⟩ := ih (k_cnt (g_lead T (T 6 ||| jl 1 (nI ((fL (g_free T) 52).getD ((fL (g_free T) 52).length - (n + 1)) 0)))) w y).1 (k_cnt (g_lead T (T 6 ||| jl 1 (nI ((fL (g_free T) 52).getD ((fL (g_free T) 52).length - (n + 1)) 0)))) w y).2 (by omega)
    rw [c1] at i1
    rw [c2] at i2
    exact ⟨i1, i2⟩
theorem kN3i_at (hI : iv_ok T ck cn ks se bd 3 dk j ct wi sh) {z : Nat → Int32} {q : Nat} (hq : q < 6) (hz : ∀ i, i < (fL (g_free T) 52).length → z i = nI ((fL (g_free T) 52).getD i 0)) {c : Nat} (hc : mem (g_free T) c) : ∀ (n : Nat) (w y : Nat → Int32), n ≤ (fL (g_free T) 52).length → (∀ d ∈ (fL (g_free T) 52).drop ((fL (g_free T) 52).length - n), c ≠ d) → (kN3i se bd z (fL (g_free T) 52).length (nI c) n w y).1 q = accL (fun d => oT T q 0 (T 6 ||| jl 1 (nI c) ||| jl 1 (nI d))) (w q) ((fL (g_free T) 52).drop ((fL (g_free T) 52).length - n)) ∧ (kN3i se bd z (fL (g_free T) 52).length (nI c) n w y).2 q = accL (fun d => oT T q 1 (T 6 ||| jl 1 (nI c) ||| jl 1 (nI d))) (y q) ((fL (g_free T) 52).drop ((fL (g_free T) 52).length - n)) := by
  have hl := fL_len (g_free T) 52 (Nat.le_refl _)
  intro n
  induction n with
  | zero =>
    intro w y _ _
    rw [Nat.sub_zero, List.drop_length]
    exact ⟨rfl, rfl⟩
  | succ n ih =>
    intro w y hn hne
    have hlt : (fL (g_free T) 52).length - (n + 1) < (fL (g_free T) 52).length := by omega
    have hm : mem (g_free T) ((fL (g_free T) 52).getD ((fL (g_free T) 52).length - (n + 1)) 0) := (fL_mem _ (free_in hI) _).mp ((getD_mem _).mpr ⟨_, hlt, rfl⟩)
    rw [drop_at hlt, show (fL (g_free T) 52).length - (n + 1) + 1 = (fL (g_free T) 52).length - n by omega] at hne
    unfold kN3i
    rw [nI_clamp (by omega), hz _ hlt, drop_at hlt, show (fL (g_free T) 52).length - (n + 1) + 1 = (fL (g_free T) 52).length - n by omega, lead_2 hI rfl hc hm (hne _ List.mem_cons_self)]
    obtain ⟨c1, c2⟩ := cnt_T hq (T 6 ||| jl 1 (nI c) ||| jl 1 (nI ((fL (g_free T) 52).getD ((fL (g_free T) 52).length - (n + 1)) 0))) w y
    obtain ⟨i1, i2⟩ := ih (k_cnt (g_lead T (T 6 ||| jl 1 (nI c) ||| jl 1 (nI ((fL (g_free T) 52).getD ((fL (g_free T) 52).length - (n + 1)) 0)))) w y).1 (k_cnt (g_lead T (T 6 ||| jl 1 (nI c) ||| jl 1 (nI ((fL (g_free T) 52).getD ((fL (g_free T) 52).length - (n + 1)) 0)))) w y).2 (by omega) (fun d hd => hne d (List.mem_cons_of_mem _ hd))
    rw [c1] at i1
    rw [c2] at i2
    exact ⟨i1, i2⟩
theorem kN3o_at (hI : iv_ok T ck cn ks se bd 3 dk j ct wi sh) {z : Nat → Int32} {q : Nat} (hq : q < 6) (hz : ∀ i, i < (fL (g_free T) 52).length → z i = nI ((fL (g_free T) 52).getD i 0)) : ∀ (n : Nat) (w y : Nat → Int32), n ≤ (fL (g_free T) 52).length → (kN3o se bd z (fL (g_free T) 52).length n w y).1 q = accP (fun c d => oT T q 0 (T 6 ||| jl 1 (nI c) ||| jl 1 (nI d))) (w q) ((fL (g_free T) 52).drop ((fL (g_free T) 52).length - n)) ∧ (kN3o se bd z (fL (g_free T) 52).length n w y).2 q = accP (fun c d => oT T q 1 (T 6 ||| jl 1 (nI c) ||| jl 1 (nI d))) (y q) ((fL (g_free T) 52).drop ((fL (g_free T) 52).length - n)) := by
  have hl := fL_len (g_free T) 52 (Nat.le_refl _)
  intro n
  induction n with
  | zero =>
    intro w y _
    rw [Nat.sub_zero, List.drop_length]
    exact ⟨rfl, rfl⟩
  | succ n ih =>
    intro w y hn
    have hlt : (fL (g_free T) 52).length - (n + 1) < (fL (g_free T) 52).length := by omega
    have hm : mem (g_free T) ((fL (g_free T) 52).getD ((fL (g_free T) 52).length - (n + 1)) 0) := (fL_mem _ (free_in hI) _).mp ((getD_mem _).mpr ⟨_, hlt, rfl⟩)
    have hnd : ((fL (g_free T) 52).drop ((fL (g_free T) 52).length - (n + 1))).Nodup := List.Sublist.nodup (List.drop_sublist _ _) (fL_nd _)
    rw [drop_at hlt, show (fL (g_free T) 52).length - (n + 1) + 1 = (fL (g_free T) 52).length - n by omega] at hnd
    have hne := (List.nodup_cons.mp hnd).1
    unfold kN3o
    rw [nI_clamp (by omega), hz _ hlt, drop_at hlt, show (fL (g_free T) 52).length - (n + 1) + 1 = (fL (g_free T) 52).length - n by omega]
    obtain ⟨c1, c2⟩ := kN3i_at hI hq hz hm n w y (by omega) (fun d hd e => hne (e ▸ hd))
    obtain ⟨i1, i2⟩ := ih (kN3i se bd z (fL (g_free T) 52).length (nI ((fL (g_free T) 52).getD ((fL (g_free T) 52).length - (n + 1)) 0)) n w y).1 (kN3i se bd z (fL (g_free T) 52).length (nI ((fL (g_free T) 52).getD ((fL (g_free T) 52).length - (n + 1)) 0)) n w y).2 (by omega)
    rw [c1] at i1
    rw [c2] at i2
    exact ⟨i1, i2⟩
theorem gcb_0 (T : Nat → Int64) (q : Nat) (o : Int32) (B f : Int64) : g_cb T (nI q) o 0 B f = oT T q o B := rfl
theorem gcb_1 (T : Nat → Int64) (q : Nat) (o : Int32) (B f : Int64) : g_cb T (nI q) o 1 B f = accL (fun c => oT T q o (B ||| jl 1 (nI c))) 0 (fL f 52) := cb_1 (G := g_cb T (nI q) o 0) (g := oT T q o) (fun x y => rfl) B f 52 0 f (Nat.le_refl _) (fun d _ _ => Iff.rfl)
theorem gcb_2 (T : Nat → Int64) (q : Nat) (o : Int32) (B f : Int64) (hf : in52 f) : g_cb T (nI q) o 2 B f = accP (fun c d => oT T q o (B ||| jl 1 (nI c) ||| jl 1 (nI d))) 0 (fL f 52) := cb_2 (G := g_cb T (nI q) o 0) (g := oT T q o) (fun x y => rfl) B f hf 52 0 f (Nat.le_refl _) (fun d => ⟨fun z => ⟨by omega, z⟩, fun z => z.2⟩)
theorem all_5 (hI : iv_ok T ck cn ks se bd 5 dk j ct wi sh) {q : Nat} (hq : q < 6) (z w y : Nat → Int32) : (k_all se bd 5 z w y).1 q = g_cb T (nI q) 0 0 (T 6) (g_free T) ∧ (k_all se bd 5 z w y).2 q = g_cb T (nI q) 1 0 (T 6) (g_free T) := by
  have hln : g_lead T (T 6) = k_lead se bd 5 (-1) (-1) := lead_n hI (mayE_0 (by decide) (by decide)) mem_60
  have e : k_all se bd 5 z w y = k_cnt (k_lead se bd 5 (-1) (-1)) (kz6 6 w) (kz6 6 y) := if_pos rfl
  rw [e, ← hln, gcb_0, gcb_0]
  obtain ⟨c1, c2⟩ := cnt_T hq (T 6) (kz6 6 w) (kz6 6 y)
  rw [c1, c2, kz_0 hq, kz_0 hq, Int32.zero_add, Int32.zero_add]
  exact ⟨rfl, rfl⟩
theorem all_4 (hI : iv_ok T ck cn ks se bd 4 dk j ct wi sh) {q : Nat} (hq : q < 6) (z w y : Nat → Int32) : (k_all se bd 4 z w y).1 q = g_cb T (nI q) 0 1 (T 6) (g_free T) ∧ (k_all se bd 4 z w y).2 q = g_cb T (nI q) 1 1 (T 6) (g_free T) := by
  have e : k_all se bd 4 z w y = kN4 se bd (k_left se bd 4 z).2 (k_left se bd 4 z).1.toNatClampNeg (k_left se bd 4 z).1.toNatClampNeg (kz6 6 w) (kz6 6 y) := by
    unfold k_all
    rw [if_neg (by decide), if_pos rfl]
  obtain ⟨l1, l2⟩ := left_at hI z
  rw [e, l1, gcb_1, gcb_1]
  obtain ⟨c1, c2⟩ := kN4_at hI hq l2 (fL (g_free T) 52).length (kz6 6 w) (kz6 6 y) (Nat.le_refl _)
  rw [c1, c2, kz_0 hq, kz_0 hq, Nat.sub_self, List.drop_zero]
  exact ⟨rfl, rfl⟩
theorem all_3 (hI : iv_ok T ck cn ks se bd 3 dk j ct wi sh) {q : Nat} (hq : q < 6) (z w y : Nat → Int32) : (k_all se bd 3 z w y).1 q = g_cb T (nI q) 0 2 (T 6) (g_free T) ∧ (k_all se bd 3 z w y).2 q = g_cb T (nI q) 1 2 (T 6) (g_free T) := by
  have e : k_all se bd 3 z w y = kN3o se bd (k_left se bd 3 z).2 (k_left se bd 3 z).1.toNatClampNeg (k_left se bd 3 z).1.toNatClampNeg (kz6 6 w) (kz6 6 y) := by
    unfold k_all
    rw [if_neg (by decide), if_neg (by decide)]
  obtain ⟨l1, l2⟩ := left_at hI z
  rw [e, l1, gcb_2 _ _ _ _ _ (free_in hI), gcb_2 _ _ _ _ _ (free_in hI)]
  obtain ⟨c1, c2⟩ := kN3o_at hI hq l2 (fL (g_free T) 52).length (kz6 6 w) (kz6 6 y) (Nat.le_refl _)
  rw [c1, c2, kz_0 hq, kz_0 hq, Nat.sub_self, List.drop_zero]
  exact ⟨rfl, rfl⟩
end
theorem what_g {α : Type} {w : Int32} (h0 : ¬ w = 0) (h1 : ¬ w = 1) (A B : α) : (if w < 0 then A else if w ≤ 1 then B else A) = A := by
  by_cases h2 : w < 0
  · rw [if_pos h2]
  · rw [if_neg h2]
    by_cases h3 : w ≤ 1
    · obtain ⟨i, hi, e⟩ := nI_of2 (M := 1) (n := 1) rfl h2 h3
      obtain hi | hi : i = 0 ∨ i = 1 := by omega
      · rw [hi] at e
        exact absurd e h0
      · rw [hi] at e
        exact absurd e h1
    · rw [if_neg h3]
theorem iv_new {T : Nat → Int64} {ck : Nat → Int32} {cn : Int32} {ks se bd dk wi sh : Nat → Int32} {ct : Int32} {b j : Nat} (hI : iv_ok T ck cn ks se bd b dk j ct wi sh) (z w y : Nat → Int32) : iv_ok T ck cn ks se bd b dk j 1 (k_all se bd b z w y).1 (k_all se bd b z w y).2 := by
  obtain ⟨h1, h2, h3, h4, h5, h6, h7, h8, -⟩ := hI
  exact ⟨h1, h2, h3, h4, h5, h6, h7, h8, Or.inr ⟨rfl, fun _ => ⟨z, w, y, fun q _ => ⟨rfl, rfl⟩⟩⟩⟩
theorem iv_old {T : Nat → Int64} {ck : Nat → Int32} {cn : Int32} {ks se bd dk wi sh : Nat → Int32} {b j : Nat} (hI : iv_ok T ck cn ks se bd b dk j 1 wi sh) (hb : 3 ≤ b) : ∃ z w y : Nat → Int32, ∀ q, q < 6 → wi q = (k_all se bd b z w y).1 q ∧ sh q = (k_all se bd b z w y).2 q := by
  rcases hI.2.2.2.2.2.2.2.2 with h | ⟨-, h⟩
  · exact absurd h (by decide)
  · exact h hb
