/-! outs and shares -/
section
variable {T : Nat → Int64} {ck : Nat → Int32} {cn : Int32} {ks se bd dk wi sh : Nat → Int32} {ct : Int32} {b j : Nat}
theorem and_bit {f : Int64} {c : Nat} (hc : c < 64) : (f &&& jl 1 (nI c) = 0 ↔ ¬ mem f c) ∧ (mem f c → f &&& jl 1 (nI c) = jl 1 (nI c)) := by
  constructor
  · rw [mem_and0]
    constructor
    · intro h hm
      exact h c hm ((mem_bit hc c).mpr rfl)
    · intro h d hd hb
      rw [(mem_bit hc d).mp hb] at hd
      exact h hd
  · intro hm
    apply mem_ext
    intro d _
    rw [mem_and, mem_bit hc]
    exact ⟨fun z => z.2, fun z => ⟨by rw [z]; exact hm, z⟩⟩
theorem mayE_1 (hI : iv_ok T ck cn ks se bd b dk j ct wi sh) (hb3 : 3 ≤ b) (hb4 : b ≤ 4) {c : Nat} (hc : mem (g_free T) c) : mayE T b [c] := by
  obtain ⟨h1, h2⟩ := (free_mem hI c).mp hc
  refine ⟨by simp, fun d hd => ?_, by simp, fun d hd => ?_, by simp; omega, by simp; omega⟩
  · rw [List.mem_singleton.mp hd]
    exact h1
  · rw [List.mem_singleton.mp hd]
    exact fun z => (iv_stand hI h1).mp z h2
theorem mayE_2 (hI : iv_ok T ck cn ks se bd b dk j ct wi sh) (hb3 : b = 3) {c d : Nat} (hc : mem (g_free T) c) (hd : mem (g_free T) d) (hne : c ≠ d) : mayE T b [c, d] := by
  obtain ⟨h1, h2⟩ := (free_mem hI c).mp hc
  obtain ⟨h3, h4⟩ := (free_mem hI d).mp hd
  refine ⟨by simp, fun e he => ?_, by simp [hne], fun e he => ?_, by simp; omega, by simp; omega⟩
  · rcases List.mem_cons.mp he with he | he
    · rw [he]; exact h1
    · rw [List.mem_singleton.mp he]; exact h3
  · rcases List.mem_cons.mp he with he | he
    · rw [he]; exact fun z => (iv_stand hI h1).mp z h2
    · rw [List.mem_singleton.mp he]; exact fun z => (iv_stand hI h3).mp z h4
theorem outs_lp (hI : iv_ok T ck cn ks se bd b dk j ct wi sh) (hb3 : 3 ≤ b) (hb4 : b ≤ 4) (k : Int32) : ∀ (n : Nat) (a : Int64), n ≤ 52 → ou_lp T (g_free T) k n a = ku_lp se bd b k n a := by
  intro n
  induction n with
  | zero =>
    intro a _
    rfl
  | succ n ih =>
    intro a hn
    obtain ⟨a1, a2⟩ := and_bit (f := g_free T) (c := 52 - (n + 1)) (by omega)
    have hf := free_mem hI (52 - (n + 1))
    unfold ou_lp ku_lp
    by_cases hm : mem (g_free T) (52 - (n + 1))
    · have hl := lead_n hI (mayE_1 hI hb3 hb4 hm) (w := T 6 ||| jl 1 (nI (52 - (n + 1)))) (fun c => by rw [mem_or, mem_bit (by omega), List.mem_singleton])
      have hl : g_lead T (T 6 ||| jl 1 (nI (52 - (n + 1)))) = k_lead se bd b (nI (52 - (n + 1))) (-1) := hl
      rw [if_neg (fun z => (a1.mp z) hm), if_pos (hf.mp hm).2, a2 hm, show (6 : Int32).toNatClampNeg = 6 from rfl, hl]
      by_cases e : k_lead se bd b (nI (52 - (n + 1))) (-1) = jli 1 k
      · rw [if_pos e, if_pos e]
        exact ih _ (by omega)
      · rw [if_neg e, if_neg e]
        exact ih _ (by omega)
    · rw [if_pos (a1.mpr hm), if_neg (fun z => hm (hf.mpr ⟨by omega, z⟩))]
      exact ih _ (by omega)
theorem outs_n (hI : iv_ok T ck cn ks se bd b dk j ct wi sh) (hb3 : 3 ≤ b) (hb4 : b ≤ 4) (k : Int32) : g_outs T k = k_outs se bd b k := outs_lp hI hb3 hb4 k 52 0 (Nat.le_refl _)
end
theorem share_ck : ∀ X, X < 64 → ∀ q, q < 6 → (nI X &&& jli 1 (nI q) = 0 ↔ jri (nI X) (nI q) &&& 1 = 0) ∧ f_bi (nI X) = (ky_lp (nI X) (nI q) 6 0 0).1 ∧ f_bi (nI X &&& (jli 1 (nI q) - 1)) = (ky_lp (nI X) (nI q) 6 0 0).2 ∧ (f_bi (nI X) = 0 → jri (nI X) (nI q) &&& 1 = 0) := by decide +kernel
theorem share_n {X q : Nat} (hX : X < 64) (hq : q < 6) (p : Int32) : g_share (nI X) (nI q) p = k_shareV (nI X) (nI q) p := by
  obtain ⟨h1, h2, h3, h4⟩ := share_ck X hX q hq
  unfold g_share k_shareV
  rw [← h2, ← h3]
  by_cases e0 : f_bi (nI X) = 0
  · rw [if_pos e0, if_pos (h4 e0)]
  · rw [if_neg e0]
    by_cases e1 : nI X &&& jli 1 (nI q) = 0
    · rw [if_pos e1, if_pos (h1.mp e1)]
    · rw [if_neg e1, if_neg (fun z => e1 (h1.mpr z))]
      by_cases e2 : jrem p (f_bi (nI X)) ≤ f_bi (nI X &&& (jli 1 (nI q) - 1))
      · rw [if_pos e2, if_pos e2, Int32.add_zero]
      · rw [if_neg e2, if_neg e2]
