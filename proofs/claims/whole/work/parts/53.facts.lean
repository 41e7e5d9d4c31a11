/-! what the law's start gives -/
section FA
variable {s : State} {b : Nat}
theorem lw_tab {n : String} {xs : List Int32} (hts : ∀ w ∈ lw_tbl, w.before #[Value.ref b] s = true) (hgv : (Jvm.Cond.and given_1 narrow_1).before #[Value.ref b] s = true) (hN : xs.length < 2 ^ 31) (h1 : Cond.laysStatic "HandTables" n "[I" ∈ lw_tbl) (h2 : Cond.arrayOf (.static "HandTables" n "[I") .int ∈ flatC (Jvm.Cond.and given_1 narrow_1)) (h3 : Cond.eq (.length (.static "HandTables" n "[I")) (.int (Int32.ofNat xs.length)) ∈ flatC (Jvm.Cond.and given_1 narrow_1)) (h4 : ∀ j, j < xs.length → Cond.eq (.elem (.static "HandTables" n "[I") (.int (Int32.ofNat j))) (.int (xs.getD j 0)) ∈ flatC (Jvm.Cond.and given_1 narrow_1)) : ∃ t, ta_1 n xs t s := by
  have hq := flat_of_before _ hgv
  obtain ⟨t, ht, hT⟩ := va_Tof (args := #[Value.ref b]) (f := fun j => .int (xs.getD j 0)) (A := ta_A) hN (hq _ h2) (va_eqt (hq _ h3)) (fun j hj => va_eqt (hq _ (h4 j hj))) (fun a _ => id)
  exact ⟨t, va_Zof (hts _ h1) (hts (.initialized "HandTables") (by decide +kernel)) ht (fun a _ => id), hT⟩
theorem lw_ta (hts : ∀ w ∈ lw_tbl, w.before #[Value.ref b] s = true) (hgv : (Jvm.Cond.and given_1 narrow_1).before #[Value.ref b] s = true) : ta_F s :=
  ⟨lw_tab hts hgv (by decide) (by decide +kernel) (by decide +kernel) (by decide +kernel) (by decide +kernel), lw_tab hts hgv (by decide) (by decide +kernel) (by decide +kernel) (by decide +kernel) (by decide +kernel), lw_tab hts hgv (by decide) (by decide +kernel) (by decide +kernel) (by decide +kernel) (by decide +kernel), lw_tab hts hgv (by decide) (by decide +kernel) (by decide +kernel) (by decide +kernel) (by decide +kernel)⟩
theorem lw_exw : ∀ w ∈ ex_w, w ∈ lw_tbl := by decide +kernel
theorem lw_exs1 : ∀ q ∈ ex_s, Cond.stringRef "HandTables" q.1 q.2 ∈ lw_tbl := by decide +kernel
theorem lw_exs2 : ∀ q ∈ ex_s, Cond.exactly (.string "HandTables" q.1) "java/lang/String" ∈ flatC (Jvm.Cond.and given_1 narrow_1) := by decide +kernel
theorem lw_ex (hts : ∀ w ∈ lw_tbl, w.before #[Value.ref b] s = true) (hgv : (Jvm.Cond.and given_1 narrow_1).before #[Value.ref b] s = true) : ex_F s := by
  have hq := flat_of_before _ hgv
  refine ⟨fun w hw => va_Nw.of (ao_w w hw) (hts w (lw_exw w hw)), vx_Zqof (args := #[Value.ref b]) (hts _ (by decide +kernel)) (hts _ (by decide +kernel)) (hq _ (by decide +kernel)) (fun a _ => id), vx_Zqof (args := #[Value.ref b]) (hts _ (by decide +kernel)) (hts _ (by decide +kernel)) (hq _ (by decide +kernel)) (fun a _ => id), fun q hq2 => ?_⟩
  obtain ⟨a, c, cA, kA, q1, -⟩ := Cond.exactly_spec (args := #[Value.ref b]) (first := s) (o := none) (s := s) (idx := []) (t := .string "HandTables" q.1) (cls := "java/lang/String") (hq _ (lw_exs2 q hq2))
  exact ⟨a, vk_R.of (A := #[Value.ref b]) (hts _ (lw_exs1 q hq2)) q1⟩
theorem lw_nc (hgv : (Jvm.Cond.and given_1 narrow_1).before #[Value.ref b] s = true) : nc_F s := by
  have hq := flat_of_before _ hgv
  exact ⟨va_Nc.of (hq _ (by decide +kernel)), va_Nc.of (hq _ (by decide +kernel)), va_Nc.of (hq _ (by decide +kernel))⟩
end FA
theorem dk_same : ∀ (n : Nat) (f : Nat → Int32), sd_lp n f = kk_lp n f
  | 0, _ => rfl
  | n + 1, f => dk_same n _
theorem hse1 : ∀ j, j < 6 → k_se0 (2 * nI j).toNatClampNeg = -1 := by decide +kernel
theorem hse0 : k_hse k_se0 := fun j hj => Or.inl (hse1 j hj)
theorem tab0 : ∀ q, q < 6 → (k_se0 (2 * q) = -1 ∧ k_se0 (2 * q + 1) = -1) := by decide +kernel
theorem nod1 : ∀ i, i < 12 → k_se0 i = -1 := by decide +kernel
theorem nod0 : iv_ds k_se0 (fun _ => 0) 0 := ⟨fun i j hi _ _ h => absurd (nod1 i hi) h, fun i j _ hj => absurd hj (by omega), fun i j hi => absurd hi (by omega)⟩
/-- the law's state at its start -/
theorem Inv0 {S : mS} (h : in_R S) : Inv (fun _ => 0) (g_sorted (fun _ => 0)) 0 S := by
  obtain ⟨ks, rn, oc, hk, rfl⟩ := h
  refine ⟨0, k_sort ks, nI 7462, rn, oc, (fun _ => 0), 0, k_se0, (fun _ => 0), 0, k_fresh (fun _ => 0), 0, 0, 0, (fun _ => 0), (fun _ => 0), (fun _ => 0), 0, 0, 0, rfl, by omega, by omega, rfl, hse0, fun i hi => absurd hi (by omega), fun i _ => congrFun (dk_same 52 (fun _ => 0)) i, ⟨ks, hk, rfl⟩, ⟨fun q hq => ?_, fun q hq => ?_, rfl, nod0⟩, Or.inl rfl⟩
  · rw [(tab0 q hq).1, (tab0 q hq).2]
  · rw [if_pos (tab0 q hq).1]
