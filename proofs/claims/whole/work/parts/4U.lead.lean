/-! who leads -/
section
variable {T : Nat → Int64} {ck : Nat → Int32} {cn : Int32} {ks se bd dk wi sh : Nat → Int32} {ct : Int32} {b j : Nat}
/-- the cards E may come at this table -/
def mayE (T : Nat → Int64) (b : Nat) (E : List Nat) : Prop := E.length ≤ 2 ∧ (∀ c ∈ E, c < 52) ∧ E.Nodup ∧ (∀ c ∈ E, ¬ mem (g_stand T) c) ∧ 3 ≤ b + E.length ∧ b + E.length ≤ 5
/-- the class's value of seat q's hand, and the model's key of it -/
theorem seat_V (hI : iv_ok T ck cn ks se bd b dk j ct wi sh) {E : List Nat} (hE : mayE T b E) {w : Int64} (hw : ∀ c, mem w c ↔ mem (T 6) c ∨ c ∈ E) {q : Nat} (hq : q < 6) (ht : ¬ se (2 * q) = -1) : ∃ v, v < 7462 ∧ f_valueOf (T q ||| w) = nI v ∧ k_sk se bd b (kx1 E) (kx2 E) (nI q) = nI (kv v) := by
  obtain ⟨e1, e2, e3, e4, e5, e6⟩ := hE
  obtain ⟨h1, h2, h3⟩ := sk_V hI hq ht e1 e2 e3 e4 e5 e6 (S := T q ||| w) (fun c => by rw [mem_or, hw c])
  have hp : pop (T q ||| w) = 5 ∨ pop (T q ||| w) = 6 ∨ pop (T q ||| w) = 7 := by omega
  exact ⟨V (T q ||| w), V_lt h2 hp, value_V h2 hp, h1⟩
theorem lead_lp (hI : iv_ok T ck cn ks se bd b dk j ct wi sh) {E : List Nat} (hE : mayE T b E) {w : Int64} (hw : ∀ c, mem w c ↔ mem (T 6) c ∨ c ∈ E) : ∀ (n : Nat) (h m a : Int32), n ≤ 6 → ((h = -1 ∧ m = -1) ∨ ∃ v, v < 7462 ∧ h = nI v ∧ m = nI (kv v)) → ld_lp T w n h a = (kl_lp se bd b (kx1 E) (kx2 E) n m a).2 := by
  intro n
  induction n with
  | zero =>
    intro h m a _ _
    rfl
  | succ n ih =>
    intro h m a hn hinv
    have hq : 6 - (n + 1) < 6 := by omega
    have k22 := fun i => kv_22 i
    unfold ld_lp kl_lp ld_v ld_g ld_w
    rw [nI_clamp (by omega), c2 hq]
    by_cases h0 : se (2 * (6 - (n + 1))) = -1
    · have hT := (iv_T0 hI hq).mpr h0
      have hle : (-1 : Int32) ≤ h := by
        rcases hinv with ⟨e, -⟩ | ⟨v, hv, e, -⟩
        · rw [e]; exact Int32.le_refl _
        · rw [e]; exact m1_le (by omega)
      rw [if_pos h0, if_pos hT, if_pos hle, if_pos hle, if_pos rfl]
      exact ih h m a (by omega) hinv
    · have hT : ¬ T (6 - (n + 1)) = 0 := fun z => h0 ((iv_T0 hI hq).mp z)
      obtain ⟨v, hv, e1, e2⟩ := seat_V hI hE hw hq h0
      have hv2 := k22 v
      have ne1 : ¬ nI v = -1 := nI_m1 (by omega)
      rw [if_neg h0, if_neg hT, e1, e2]
      rcases hinv with ⟨eh, em⟩ | ⟨v0, hv0, eh, em⟩
      · have g1 : ¬ nI v ≤ -1 := fun z => ne1 (Int32.le_antisymm z (m1_le (by omega)))
        have g2 : ¬ nI (kv v) ≤ -1 := fun z => nI_m1 (by omega) (Int32.le_antisymm z (m1_le (by omega)))
        rw [eh, em, if_neg g1, if_neg g1, if_neg ne1, if_neg g2]
        exact ih _ _ _ (by omega) (Or.inr ⟨v, hv, rfl, rfl⟩)
      · have hv3 := k22 v0
        have l1 := nI_leI (a := v) (b := v0) (by omega) (by omega)
        have l2 := nI_leI (a := kv v) (b := kv v0) (by omega) (by omega)
        have q1 := nI_eq (a := v) (b := v0) (by omega) (by omega)
        have q2 := nI_eq (a := kv v) (b := kv v0) (by omega) (by omega)
        rw [eh, em]
        by_cases hle : v ≤ v0
        · have hk := kv_le hle hv0
          rw [if_pos (l1.mpr hle), if_pos (l1.mpr hle), if_neg ne1, if_pos (l2.mpr hk)]
          by_cases heq : v = v0
          · rw [if_pos (q1.mpr heq), if_pos (q2.mpr (by rw [heq]))]
            exact ih _ _ _ (by omega) (Or.inr ⟨v0, hv0, rfl, rfl⟩)
          · rw [if_neg (fun z => heq (q1.mp z)), if_neg (fun z => heq (kv_inj hv hv0 (q2.mp z)))]
            exact ih _ _ _ (by omega) (Or.inr ⟨v0, hv0, rfl, rfl⟩)
        · have hk := kv_lt (i := v0) (j := v) (by omega) hv
          rw [if_neg (fun z => hle (l1.mp z)), if_neg (fun z => hle (l1.mp z)), if_neg ne1, if_neg (fun z => by have := l2.mp z; omega)]
          exact ih _ _ _ (by omega) (Or.inr ⟨v, hv, rfl, rfl⟩)
theorem lead_n (hI : iv_ok T ck cn ks se bd b dk j ct wi sh) {E : List Nat} (hE : mayE T b E) {w : Int64} (hw : ∀ c, mem w c ↔ mem (T 6) c ∨ c ∈ E) : g_lead T w = k_lead se bd b (kx1 E) (kx2 E) := lead_lp hI hE hw 6 (-1) (-1) 0 (by decide) (Or.inl ⟨rfl, rfl⟩)
/-- the leaders are a set of the six seats -/
theorem or_6 : ∀ X, X < 64 → ∀ q, q < 6 → nI X ||| jli 1 (nI q) = nI (X ||| 2 ^ q) ∧ X ||| 2 ^ q < 64 ∧ X ||| 2 ^ q ≠ 0 := by decide +kernel
theorem ld_64 (T : Nat → Int64) (w : Int64) : ∀ (n : Nat) (h : Int32) (X : Nat), n ≤ 6 → X < 64 → ∃ Y, Y < 64 ∧ ld_lp T w n h (nI X) = nI Y := by
  intro n
  induction n with
  | zero =>
    intro h X _ hX
    exact ⟨X, hX, rfl⟩
  | succ n ih =>
    intro h X hn hX
    obtain ⟨o1, o2, -⟩ := or_6 X hX (6 - (n + 1)) (by omega)
    obtain ⟨p1, p2, -⟩ := or_6 0 (by decide) (6 - (n + 1)) (by omega)
    unfold ld_lp
    generalize ld_v T w (nI (6 - (n + 1))) = v
    unfold ld_w
    rw [show (0 : Int32) = nI 0 from rfl, o1, p1]
    split
    · split
      · exact ih _ _ (by omega) hX
      · split
        · exact ih _ _ (by omega) o2
        · exact ih _ _ (by omega) hX
    · split
      · exact ih _ _ (by omega) (by decide)
      · exact ih _ _ (by omega) p2
theorem lead_64 (T : Nat → Int64) (w : Int64) : ∃ Y, Y < 64 ∧ g_lead T w = nI Y := ld_64 T w 6 (-1) 0 (Nat.le_refl _) (by decide)
theorem ke_iff (se : Nat → Int32) : ∀ (n : Nat) (a : Int32), n ≤ 6 → (a = 0 ∨ a = 1) → (ke_lp se n a = 0 ↔ a = 0 ∨ ∃ q, 6 - n ≤ q ∧ q < 6 ∧ se (2 * q) ≠ -1) := by
  intro n
  induction n with
  | zero =>
    intro a _ _
    exact ⟨Or.inl, fun z => z.elim id (fun ⟨q, h1, h2, _⟩ => absurd h2 (by omega))⟩
  | succ n ih =>
    intro a hn ha
    have hq : 6 - (n + 1) < 6 := by omega
    unfold ke_lp
    rw [c2 hq]
    rcases ha with ha | ha
    · rw [if_pos ha, ih 0 (by omega) (Or.inl rfl)]
      exact ⟨fun _ => Or.inl ha, fun _ => Or.inl rfl⟩
    · rw [if_neg (by rw [ha]; decide)]
      by_cases h : se (2 * (6 - (n + 1))) = -1
      · rw [if_pos h, ih 1 (by omega) (Or.inr rfl)]
        constructor
        · intro z
          rcases z with z | ⟨q, h1, h2, h3⟩
          · exact absurd z (by decide)
          · exact Or.inr ⟨q, by omega, h2, h3⟩
        · intro z
          rcases z with z | ⟨q, h1, h2, h3⟩
          · rw [ha] at z
            exact absurd z (by decide)
          · by_cases e : q = 6 - (n + 1)
            · rw [e] at h3
              exact absurd h h3
            · exact Or.inr ⟨q, by omega, h2, h3⟩
      · rw [if_neg h, ih 0 (by omega) (Or.inl rfl)]
        exact ⟨fun _ => Or.inr ⟨6 - (n + 1), by omega, hq, h⟩, fun _ => Or.inl rfl⟩
theorem empty_iff (se : Nat → Int32) : k_empty se = 0 ↔ ∃ q, q < 6 ∧ se (2 * q) ≠ -1 := by
  unfold k_empty
  rw [ke_iff se 6 1 (by decide) (Or.inr rfl)]
  constructor
  · intro z
    rcases z with z | ⟨q, _, h⟩
    · exact absurd z (by decide)
    · exact ⟨q, h⟩
  · intro ⟨q, h⟩
    exact Or.inr ⟨q, by omega, h⟩
/-- somebody leads where somebody sits -/
theorem ld_ne0 (hI : iv_ok T ck cn ks se bd b dk j ct wi sh) {E : List Nat} (hE : mayE T b E) {w : Int64} (hw : ∀ c, mem w c ↔ mem (T 6) c ∨ c ∈ E) : ∀ (n : Nat) (h : Int32) (X : Nat), n ≤ 6 → X < 64 → ((h = -1 ∧ X = 0) ∨ (∃ v, v < 7462 ∧ h = nI v) ∧ X ≠ 0) → (ld_lp T w n h (nI X) = 0 ↔ X = 0 ∧ ∀ q, 6 - n ≤ q → q < 6 → se (2 * q) = -1) := by
  intro n
  induction n with
  | zero =>
    intro h X _ hX hinv
    show nI X = 0 ↔ _
    have : nI X = 0 ↔ X = 0 := nI_eq (b := 0) (by omega) (by decide)
    rw [this]
    exact ⟨fun z => ⟨z, fun q h1 h2 => absurd h2 (by omega)⟩, fun z => z.1⟩
  | succ n ih =>
    intro h X hn hX hinv
    have hq : 6 - (n + 1) < 6 := by omega
    obtain ⟨o1, o2, o3⟩ := or_6 X hX (6 - (n + 1)) (by omega)
    obtain ⟨p1, p2, p3⟩ := or_6 0 (by decide) (6 - (n + 1)) (by omega)
    unfold ld_lp ld_v ld_g ld_w
    rw [nI_clamp (by omega)]
    by_cases h0 : se (2 * (6 - (n + 1))) = -1
    · have hT := (iv_T0 hI hq).mpr h0
      have hle : (-1 : Int32) ≤ h := by
        rcases hinv with ⟨e, -⟩ | ⟨⟨v, hv, e⟩, -⟩
        · rw [e]; exact Int32.le_refl _
        · rw [e]; exact m1_le (by omega)
      rw [if_pos hT, if_pos hle, if_pos hle, if_pos rfl, ih h X (by omega) hX hinv]
      constructor
      · intro ⟨z1, z2⟩
        refine ⟨z1, fun q h1 h2 => ?_⟩
        by_cases e : q = 6 - (n + 1)
        · rw [e]; exact h0
        · exact z2 q (by omega) h2
      · intro ⟨z1, z2⟩
        exact ⟨z1, fun q h1 h2 => z2 q (by omega) h2⟩
    · have hT : ¬ T (6 - (n + 1)) = 0 := fun z => h0 ((iv_T0 hI hq).mp z)
      obtain ⟨v, hv, e1, -⟩ := seat_V hI hE hw hq h0
      have ne1 : ¬ nI v = -1 := nI_m1 (by omega)
      have no : ¬ (X = 0 ∧ ∀ q, 6 - (n + 1) ≤ q → q < 6 → se (2 * q) = -1) := fun z => h0 (z.2 _ (Nat.le_refl _) hq)
      rw [if_neg hT, e1, show (0 : Int32) = nI 0 from rfl, p1, o1]
      refine ⟨fun z => ?_, fun z => absurd z no⟩
      rcases hinv with ⟨eh, eX⟩ | ⟨⟨v0, hv0, eh⟩, eX⟩
      · have g1 : ¬ nI v ≤ -1 := fun z => ne1 (Int32.le_antisymm z (m1_le (by omega)))
        rw [eh, if_neg g1, if_neg g1, if_neg ne1] at z
        have := ((ih _ _ (by omega) p2 (Or.inr ⟨⟨v, hv, rfl⟩, p3⟩)).mp z).1
        exact absurd this p3
      · rw [eh] at z
        by_cases hle : nI v ≤ nI v0
        · rw [if_pos hle, if_pos hle, if_neg ne1] at z
          by_cases heq : nI v = nI v0
          · rw [if_pos heq] at z
            exact absurd ((ih _ _ (by omega) o2 (Or.inr ⟨⟨v0, hv0, rfl⟩, o3⟩)).mp z).1 o3
          · rw [if_neg heq] at z
            exact absurd ((ih _ _ (by omega) hX (Or.inr ⟨⟨v0, hv0, rfl⟩, eX⟩)).mp z).1 eX
        · rw [if_neg hle, if_neg hle, if_neg ne1] at z
          exact absurd ((ih _ _ (by omega) p2 (Or.inr ⟨⟨v, hv, rfl⟩, p3⟩)).mp z).1 p3
theorem lead_0 (hI : iv_ok T ck cn ks se bd b dk j ct wi sh) {E : List Nat} (hE : mayE T b E) {w : Int64} (hw : ∀ c, mem w c ↔ mem (T 6) c ∨ c ∈ E) : g_lead T w = 0 ↔ ¬ k_empty se = 0 := by
  have := ld_ne0 hI hE hw 6 (-1) 0 (Nat.le_refl _) (by decide) (Or.inl ⟨rfl, rfl⟩)
  rw [empty_iff]
  refine Iff.trans this ⟨fun z ⟨q, h1, h2⟩ => h2 (z.2 q (by omega) h1), fun z => ⟨rfl, fun q h1 h2 => ?_⟩⟩
  apply Classical.byContradiction
  intro h3
  exact z ⟨q, h2, h3⟩
theorem mayE_0 (hb3 : 3 ≤ b) (hb5 : b ≤ 5) : mayE T b [] := ⟨by simp, by simp, List.nodup_nil, by simp, by simpa using hb3, by simpa using hb5⟩
theorem mem_60 (c : Nat) : mem (T 6) c ↔ mem (T 6) c ∨ c ∈ ([] : List Nat) := by simp
end
