/-! the hands at the table -/
theorem getD_inj {L : List Nat} (hn : L.Nodup) : ∀ i j, i < L.length → j < L.length → L.getD i 0 = L.getD j 0 → i = j := by
  intro i j hi hj e
  rw [List.getD_eq_getElem?_getD, List.getD_eq_getElem?_getD, List.getElem?_eq_getElem hi, List.getElem?_eq_getElem hj] at e
  have e : L[i] = L[j] := e
  have hp := List.pairwise_iff_getElem.mp hn
  apply Classical.byContradiction
  intro hne
  rcases Nat.lt_or_gt_of_ne hne with h | h
  · exact hp i j hi hj h e
  · exact hp j i hj hi h e.symm
theorem getD_mem {L : List Nat} (c : Nat) : c ∈ L ↔ ∃ i, i < L.length ∧ L.getD i 0 = c := by
  rw [List.mem_iff_getElem]
  constructor
  · intro ⟨i, hi, e⟩
    refine ⟨i, hi, ?_⟩
    rw [List.getD_eq_getElem?_getD, List.getElem?_eq_getElem hi]
    exact e
  · intro ⟨i, hi, e⟩
    refine ⟨i, hi, ?_⟩
    rw [List.getD_eq_getElem?_getD, List.getElem?_eq_getElem hi] at e
    exact e
/-- the model's best of a list of cards -/
theorem best_L {L : List Nat} {h : Nat → Int32} {S : Int64} (h52 : ∀ c ∈ L, c < 52) (hn : L.Nodup) (h5 : 5 ≤ L.length) (h7 : L.length ≤ 7) (hh : ∀ i, i < L.length → h i = nI (L.getD i 0)) (hS : ∀ c, mem S c ↔ c ∈ L) : k_best h L.length = nI (kv (V S)) ∧ in52 S ∧ pop S = L.length := by
  have ha : arrS (fun i => L.getD i 0) L.length S := by
    intro c
    rw [hS c]
    exact getD_mem c
  have hC : ∀ i, i < L.length → L.getD i 0 < 52 := fun i hi => h52 _ ((getD_mem _).mpr ⟨i, hi, rfl⟩)
  have hp := arrS_pop hC (getD_inj hn) ha
  exact ⟨best_V h5 h7 hh hC (getD_inj hn) ha, hp.2, hp.1⟩
/-- the cards that come, as the model takes them -/
def kx1 : List Nat → Int32
  | [] => -1
  | c :: _ => nI c
def kx2 : List Nat → Int32
  | [] => -1
  | _ :: L => kx1 L
theorem kx_neg {E : List Nat} (h52 : ∀ c ∈ E, c < 52) : kx1 E < 0 ↔ E = [] := by
  cases E with
  | nil => exact ⟨fun _ => rfl, fun _ => by decide⟩
  | cons c E =>
    refine ⟨fun z => absurd z (nI_pos (by have := h52 c List.mem_cons_self; omega)), fun z => by cases z⟩
theorem kqn_E {E : List Nat} (b : Nat) (h52 : ∀ c ∈ E, c < 52) (hE : E.length ≤ 2) : kq_n b (kx1 E) (kx2 E) = 2 + b + E.length := by
  unfold kq_n
  match E, h52, hE with
  | [], _, _ => rfl
  | [c], h52, _ =>
    rw [if_neg (fun z => by cases (kx_neg h52).mp z), if_pos (show kx2 [c] < 0 by show (-1 : Int32) < 0; decide)]
    rfl
  | [c, d], h52, _ =>
    rw [if_neg (fun z => by cases (kx_neg h52).mp z), if_neg (show ¬ kx2 [c, d] < 0 from fun z => by cases (kx_neg (E := [d]) (fun e he => h52 e (List.mem_cons_of_mem _ he))).mp z)]
    rfl
  | _ :: _ :: _ :: _, _, hE => exact absurd hE (by simp)
section
variable {T : Nat → Int64} {ck : Nat → Int32} {cn : Int32} {ks se bd dk wi sh : Nat → Int32} {ct : Int32} {b j : Nat}
/-- the board's cards -/
def bdL (bd : Nat → Int32) (b : Nat) : List Nat := (List.range b).map (fun i => (bd i).toNatClampNeg)
theorem bdL_at (hI : iv_ok T ck cn ks se bd b dk j ct wi sh) {i : Nat} (hi : i < b) : bd i = nI ((bdL bd b).getD i 0) ∧ (bdL bd b).getD i 0 < 52 := by
  obtain ⟨x, hx, e⟩ := (iv_get hI).2.2.1 i hi
  have e2 : (bdL bd b).getD i 0 = x := by
    unfold bdL
    rw [List.getD_eq_getElem?_getD, List.getElem?_map, List.getElem?_range hi]
    show (bd i).toNatClampNeg = x
    rw [e, nI_clamp (by omega)]
  rw [e2]
  exact ⟨e, hx⟩
theorem bdL_len (bd : Nat → Int32) (b : Nat) : (bdL bd b).length = b := by
  unfold bdL
  simp
theorem bdL_mem (hI : iv_ok T ck cn ks se bd b dk j ct wi sh) (c : Nat) : c ∈ bdL bd b ↔ mem (T 6) c := by
  rw [iv_T6 hI, getD_mem, bdL_len]
  constructor
  · intro ⟨i, hi, e⟩
    obtain ⟨e1, e2⟩ := bdL_at hI hi
    rw [e] at e1 e2
    exact ⟨i, hi, e1, e2⟩
  · intro ⟨i, hi, e, hc⟩
    obtain ⟨e1, e2⟩ := bdL_at hI hi
    refine ⟨i, hi, ?_⟩
    rw [e] at e1
    exact ((nI_eq (by omega) (by omega)).mp e1).symm
theorem bdL_nd (hI : iv_ok T ck cn ks se bd b dk j ct wi sh) : (bdL bd b).Nodup := by
  unfold bdL
  refine nd_mapN b (fun i k hi hk e => ?_)
  obtain ⟨x, hx, e1⟩ := (iv_get hI).2.2.1 i hi
  obtain ⟨y, hy, e2⟩ := (iv_get hI).2.2.1 k hk
  have e : (bd i).toNatClampNeg = (bd k).toNatClampNeg := e
  rw [e1, e2, nI_clamp (by omega), nI_clamp (by omega)] at e
  apply Classical.byContradiction
  intro hne
  exact (iv_get hI).2.2.2.2.2.2.2.2 i k hi hk hne (by rw [e1, e2, e])
theorem sk_V (hI : iv_ok T ck cn ks se bd b dk j ct wi sh) {q : Nat} (hq : q < 6) (ht : ¬ se (2 * q) = -1) {E : List Nat} (hE : E.length ≤ 2) (hE52 : ∀ c ∈ E, c < 52) (hEn : E.Nodup) (hEs : ∀ c ∈ E, ¬ mem (g_stand T) c) (h5 : 3 ≤ b + E.length) (h7 : b + E.length ≤ 5) {S : Int64} (hS : ∀ c, mem S c ↔ mem (T q) c ∨ mem (T 6) c ∨ c ∈ E) : k_sk se bd b (kx1 E) (kx2 E) (nI q) = nI (kv (V S)) ∧ in52 S ∧ pop S = 2 + b + E.length := by
  obtain ⟨hb5, hs, hbd, htab⟩ := iv_get hI
  obtain ⟨-, -, -, d1, d2, d3⟩ := htab
  rcases hs q hq with ⟨e1, -⟩ | ⟨x, y, hx, hy, ex, ey⟩
  · exact absurd e1 ht
  · have hTm := fun c => iv_Tm hI hq c
    have hlen : (x :: y :: (bdL bd b ++ E)).length = 2 + b + E.length := by
      simp only [List.length_cons, List.length_append, bdL_len]
      omega
    have hxm : mem (T q) x := (hTm x).mpr ⟨hx, Or.inl ex⟩
    have hym : mem (T q) y := (hTm y).mpr ⟨hy, Or.inr ey⟩
    have hst : ∀ c ∈ E, ¬ mem (T q) c ∧ ¬ mem (T 6) c := fun c hc => ⟨fun z => hEs c hc ((stand_mem T c).mpr ⟨q, by omega, z⟩), fun z => hEs c hc ((stand_mem T c).mpr ⟨6, by omega, z⟩)⟩
    have hsb : ∀ c, mem (T q) c → ¬ mem (T 6) c := by
      intro c h1 h2
      obtain ⟨i, hi, e, hc⟩ := (iv_T6 hI c).mp h2
      rcases ((hTm c).mp h1).2 with h3 | h3
      · exact d2 (2 * q) i (by omega) hi (by rw [h3]; exact nI_m1 (by omega)) (by rw [h3, e])
      · exact d2 (2 * q + 1) i (by omega) hi (by rw [h3]; exact nI_m1 (by omega)) (by rw [h3, e])
    have hxy : x ≠ y := by
      intro e
      exact d1 (2 * q) (2 * q + 1) (by omega) (by omega) (by omega) ht (by rw [ex, ey, e])
    have hnd : (x :: y :: (bdL bd b ++ E)).Nodup := by
      rw [List.nodup_cons, List.nodup_cons, List.nodup_append]
      refine ⟨fun z => ?_, fun z => ?_, bdL_nd hI, hEn, fun a ha c hc e => ?_⟩
      · rcases List.mem_cons.mp z with z | z
        · exact hxy z
        · rcases List.mem_append.mp z with z | z
          · exact hsb x hxm ((bdL_mem hI x).mp z)
          · exact (hst x z).1 hxm
      · rcases List.mem_append.mp z with z | z
        · exact hsb y hym ((bdL_mem hI y).mp z)
        · exact (hst y z).1 hym
      · rw [e] at ha
        exact (hst c hc).2 ((bdL_mem hI c).mp ha)
    have h52 : ∀ c ∈ x :: y :: (bdL bd b ++ E), c < 52 := by
      intro c hc
      rcases List.mem_cons.mp hc with hc | hc
      · rw [hc]; exact hx
      · rcases List.mem_cons.mp hc with hc | hc
        · rw [hc]; exact hy
        · rcases List.mem_append.mp hc with hc | hc
          · obtain ⟨i, -, -, h⟩ := (iv_T6 hI c).mp ((bdL_mem hI c).mp hc)
            exact h
          · exact hE52 c hc
    have hSL : ∀ c, mem S c ↔ c ∈ x :: y :: (bdL bd b ++ E) := by
      intro c
      rw [hS c, List.mem_cons, List.mem_cons, List.mem_append, bdL_mem hI, hTm c]
      constructor
      · intro z
        rcases z with ⟨z1, z | z⟩ | z | z
        · exact Or.inl ((nI_eq (by omega) (by omega)).mp (z.symm.trans ex))
        · exact Or.inr (Or.inl ((nI_eq (by omega) (by omega)).mp (z.symm.trans ey)))
        · exact Or.inr (Or.inr (Or.inl z))
        · exact Or.inr (Or.inr (Or.inr z))
      · intro z
        rcases z with z | z | z | z
        · exact Or.inl ⟨by omega, Or.inl (by rw [z]; exact ex)⟩
        · exact Or.inl ⟨by omega, Or.inr (by rw [z]; exact ey)⟩
        · exact Or.inr (Or.inl z)
        · exact Or.inr (Or.inr z)
    have hh : ∀ i, i < (x :: y :: (bdL bd b ++ E)).length → kq_h se bd b (nI q) (kx1 E) (kx2 E) i = nI ((x :: y :: (bdL bd b ++ E)).getD i 0) := by
      intro i hi
      rw [hlen] at hi
      unfold kq_h
      rw [c2 hq, c21 hq]
      match i, hi with
      | 0, _ =>
        rw [if_pos rfl]
        exact ex
      | 1, _ =>
        rw [if_neg (by decide), if_pos rfl]
        exact ey
      | i + 2, hi =>
        rw [if_neg (by omega), if_neg (by omega), show i + 2 - 2 = i by omega]
        show _ = nI ((bdL bd b ++ E).getD i 0)
        by_cases h1 : i < b
        · rw [if_pos (by omega), List.getD_eq_getElem?_getD, List.getElem?_append_left (by rw [bdL_len]; exact h1), ← List.getD_eq_getElem?_getD]
          exact (bdL_at hI h1).1
        · rw [if_neg (by omega), List.getD_eq_getElem?_getD, List.getElem?_append_right (by rw [bdL_len]; omega), bdL_len, ← List.getD_eq_getElem?_getD]
          have h4 : i < b + E.length := by omega
          clear hi hS hSL h52 hnd hlen hst
          match E, hE, hE52, h4 with
          | [], _, _, h4 => exact absurd h4 (by simp; omega)
          | [c], _, h52, h4 =>
            have h6 : i = b := by
              simp at h4
              omega
            rw [if_pos (by omega), if_neg (fun z => by cases (kx_neg h52).mp z), h6, Nat.sub_self]
            rfl
          | [c, d], _, h52, h4 =>
            have h6 : i = b ∨ i = b + 1 := by
              simp at h4
              omega
            rcases h6 with h6 | h6
            · rw [if_pos (by omega), if_neg (fun z => by cases (kx_neg h52).mp z), h6, Nat.sub_self]
              rfl
            · rw [if_neg (by omega), h6, show b + 1 - b = 1 by omega]
              rfl
          | _ :: _ :: _ :: _, hE, _, _ => exact absurd hE (by simp)
    have := best_L h52 hnd (by omega) (by omega) hh hSL
    unfold k_sk
    rw [kqn_E b hE52 hE, ← hlen]
    exact this
end
