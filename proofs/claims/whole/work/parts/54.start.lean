/-! the law's start -/
section SI
variable {p : Program} {l : Launch} {e : Env} {R : Room} {s : State} {m : MethodId} {args : Array Value} {below : List Frame} {meth : Method} {c : Code} {H : Heap} {locs : List Loc} {cells slots : Nat} {Q : State → Prop}
variable {cc b : ByteArray} {pc nL n d index mc ms h0 : Nat} {ls : Array Slot} {rest : List Value} {own : String} {y : MethodName} {Ts : List Cond} {B : State → Prop} {Qc : Array Value → State → Outcome → State → Prop} {free : Addr → Prop}
/-- the call of a constructor without arguments -/
theorem in_I (hM : Met l y (wd y b n none) (rmD d mc ms) (va_Pc [.ref h0] B) Qc mc ms free) (hbl : bl_F B) (hT : ∀ w ∈ gw, w ∈ Ts) (hw : Cond.methodLink own index y ∈ gw ∧ Cond.instanceMethod y ∈ gw ∧ Cond.initialized y.cls ∈ gw ∧ Cond.code y b n none ∈ gw ∧ y.name = "<init>" ∧ (y.cls ≠ "java/lang/invoke/MethodHandle" ∧ y.cls ≠ "java/lang/invoke/VarHandle" ∧ (parseMethodDescriptor y.desc).map (fun d => d.parameters.length) = some 0)) (S9 : CallFix p m c cc nL s args Ts own) (hB : ∀ U : State, U.heap = H → s.WarmedH U.vm → B U)
    (hR : (d + 1 ≤ R.frames ∧ 8 + (n + 11) + 70 * d ≤ R.locals)) (hl : ls.size = nL) (hst : (rest.map fun v => v.category).sum ≤ 8) (hf : cells + mc ≤ R.cells ∧ slots + ms ≤ R.slots) (hdg : decode cc pc = .ok (.invokespecial index, 3))
    (kk : ∀ (v : Option Value) (st t : State) (L : List Loc), st.heap = H → s.vm.Alike t.vm → Qc #[.ref h0] st (.returned v) t → (∀ q ∈ L, free q.base) → W p l e R s m args below meth c t.heap (locs ++ L) (cells + mc) (slots + ms) Q (F0 m (pc + 3) ls (v.toList ++ rest))) : W p l e R s m args below meth c H locs cells slots Q (F0 m pc ls (.ref h0 :: rest)) := by
  obtain ⟨w1, w2, w3, w4, w5, w6⟩ := hw
  have hr := va_runI (b := h0) (As := []) (rest := rest) (e := e) (below := below) (meth := meth) (H := H) (locs := locs) (cells := cells) (slots := slots) (g := F0 m pc ls (.ref h0 :: rest)) S9 hM (cwI 0 S9.2.2.2.2 (gw_inT hT w4) rfl rfl rfl (S9.2.2.2.2 _ (hT _ w3)) (S9.2.2.2.2 _ (hT _ w1)) (S9.2.2.2.2 _ (hT _ w2)) w5 w6 hR) ⟨bl_blind hbl, fun U hU hW => ⟨rfl, hB U hU hW⟩⟩ rfl rfl hl rfl (by show 2 * 0 + _ ≤ 8; omega) hdg hf
  intro X hX Y
  obtain ⟨v, st₀, t, T', L, h0', X', hL, e1, e2, hq, st⟩ := hr X hX Y
  obtain ⟨t2, a1, b1⟩ := kk v st₀ t L h0' (by rw [← e2]; exact X'.warmed.alike) hq hL T' e1 X'
  exact ⟨t2, st t2 a1, b1⟩
end SI
theorem va_P0 {D : va_G} {cl : List vw_C} {H : Heap} : va_P D cl [] H := fun k q hk => by cases hk
theorem va_D0 {A : Nat → Prop} : va_D A [] := ⟨fun i j x y hi => (by cases hi), fun k q hk => (by cases hk)⟩
theorem bl_in {D : va_G} {q sz ci : Nat} {fs : List Value} : bl_F (fun U => U.heap.size = sz ∧ q < sz ∧ va_P D cl_X [(q, .inr (ci, fs))] U.heap ∧ va_K D cl_X [] U) := by
  intro u U hW hh h
  exact ⟨by rw [hh]; exact h.1, h.2.1, by rw [hh]; exact h.2.2.1, va_K.moved hW.alike h.2.2.2⟩
set_option maxHeartbeats 4000000 in
set_option maxRecDepth 100000 in
theorem whole_start {p : Program} {e : Env} {s : State} {m : MethodId} {below : List Frame} {meth : Method} {c : Code} (l : Launch) (hst : l.stackTraces = false) {b L : Nat} {xs : Nat → Int32} (hL : L ≤ 2048) (C0 : lw_At p s m meth c b L xs) : W p l e room_1 s m #[Value.ref b] below meth c s.heap [] 0 0 (lw_Z below #[Value.ref b] s) (entryFrame m ([Value.ref b] : List Value).toArray 8) := by
  obtain ⟨hx, hb, hr, hml, hown, hts, hX, hbl, hlk, hgv⟩ := id C0
  have hG : ∀ w ∈ gw, w.before #[Value.ref b] s = true := fun w hw => hts w (List.mem_filter.mp hw).1
  have hS9 : CallFix p m c code 8 s #[Value.ref b] gw "HandTablesLaw" := ⟨hx, hb, hml, hown, hG⟩
  have hT9 : ∀ w ∈ gw, w ∈ gw := fun _ h => h
  obtain ⟨cA, iA, kA⟩ := u_known (C := "HandTables") (T := T_A) (N := 3) (n := 3) hG u_inA (hG _ (gw_mem 38 rfl rfl))
  obtain ⟨cM, iM, kM⟩ := u_known (C := "HandTablesModel") (T := T_M) (N := 20) (n := 20) hG u_inM (hG _ (gw_mem 423 rfl rfl))
  obtain ⟨D, hK0⟩ : ∃ D : va_G, va_K D cl_X [] s := by
    refine ⟨(fun c => if c = 0 then cA else cM, fun c => if c = 0 then iA else iM), fun c q hq => ?_, fun k q hk => by cases hk⟩
    match c with
    | 0 => cases hq; exact kA
    | 1 => cases hq; exact kM
    | n + 2 => cases hq
  have hA : ∀ q, s.heap.size ≤ q → nw_A s q := fun _ h => h
  have hl := lv_entry ([Value.ref b]) (n := 8) (Nat.le_of_ble_eq_true rfl)
  rw [lg_entry_eq]
  generalize (lg_sl ([Value.ref b]) ++ List.replicate (8 - (lg_sl ([Value.ref b])).length) Slot.unset).toArray = ls at hl ⊢
  have hl : lv_has ls 8 [(0, .ref b)] := hl
  refine va_new (D := D) (A := nw_A s) (ws := []) (tys := []) (ci := 0) (fs := [.null, .null, .int 0]) (C := "HandTables") (T := T_A) (N := 3) hx hb hG u_inA tf_A tf_A_ok hown (hG _ (gw_mem 37 rfl rfl)) (hG _ (gw_mem 38 rfl rfl)) (hG _ (gw_mem 27 rfl rfl)) hK0 va_P0 va_D0 va_S.rf hA rfl (fun j hj => by
    match j with
    | 0 => rfl
    | 1 => rfl
    | 2 => rfl
    | n + 3 => omega) (Nat.le_of_ble_eq_true rfl) (Nat.le_of_ble_eq_true rfl) dW_0 (fun q0 H hP hD hSS => ?_)
  have hP : va_P D cl_X [(q0, .inr (0, [.null, .null, .int 0]))] H := hP
  have hD : va_D (nw_A s) [(q0, .inr (0, [.null, .null, .int 0]))] := hD
  have hq0 : s.heap.size ≤ q0 := hD.2 0 _ rfl
  have hlt0 : q0 < H.size := (hP 0 _ rfl).lt
  refine lv_dup hx hb dW_3 rfl ?_
  refine in_I (cA_init l D q0 H.size) bl_in hT9 ⟨gw_mem 39 rfl rfl, (gw_mem 40 rfl rfl), gw_mem 27 rfl rfl, (gw_mem 41 rfl rfl), rfl, by decide +kernel⟩ hS9 (fun U hU hW => ⟨by rw [hU], hlt0, by rw [hU]; exact hP, va_K.moved hW.alike hK0⟩) ⟨Nat.le_of_ble_eq_true rfl, Nat.le_of_ble_eq_true rfl⟩ hl.1 (Nat.le_of_ble_eq_true rfl) ⟨Nat.le_of_ble_eq_true rfl, Nat.le_of_ble_eq_true rfl⟩ dW_4 (fun v st t Lc hst0 hal hq hLc => ?_)
  obtain ⟨hv, cJ, cI, ta, td, hap, hPx, hKx, ht1, ht2, hF⟩ := hq
  cases hv
  rw [hst0] at ht1 ht2
  have hKx : va_K D cl_X [(cJ, .long), (cI, .int)] s := va_K.moved hal.symm hKx
  have hF1 : H.size ≤ t.heap.size := by rw [← hst0]; exact hF.1
  have hF2 : ∀ q : Nat, q < H.size → q ≠ q0 → t.heap[q]? = H[q]? := fun q h1 h2 => by
    have := hF.2 q (by rw [hst0]; exact h1) (fun z => by rcases z with z | z; exact h2 z; rw [hst0] at z; omega)
    rw [hst0] at this
    exact this
  have hsz : s.heap.size ≤ H.size := hSS.1
  have hSS : va_S (nw_A s) s.heap t.heap ([] ++ Lc) := ⟨Nat.le_trans hSS.1 hF1, fun q h1 h2 => by rw [hF2 q (by omega) (by omega)]; exact hSS.2.1 q h1 h2, fun q hq => by
    rcases hLc q hq with z | z
    · show s.heap.size ≤ q.base; rw [z]; exact hq0
    · show s.heap.size ≤ q.base; omega⟩
  have hF0 := hF1
  clear hF hF1 hF2 hst0
  generalize t.heap = H at hPx hSS hF0
  generalize ([] ++ Lc : List Loc) = locs at hSS
  clear hLc
  have hfr : ∀ q, mu_fr (D, cJ, cI, q0, ta, td) q → nw_A s q := fun q h => by
    rcases h with z | z | z
    · rw [z]; exact hq0
    · rw [z]; show s.heap.size ≤ ta; omega
    · rw [z]; show s.heap.size ≤ td; omega
  have hDx : va_D (nw_A s) (xo_W (D, cJ, cI, q0, ta, td) (fun _ => 0) (g_sorted (fun _ => 0)) 0) := (xo_D _ _ _ hap).weaken (fun _ q _ z => hfr _ z)
  refine lv_astore_n (lv' := [(1, .ref q0), (0, .ref b)]) hx hb dW_7 rfl hl (by decide) rfl (fun ls hl => ?_)
  refine va_new (D := D) (A := nw_A s) (ci := 1) (fs := [.int 0, .null, .int 0, .null, .null, .null, .int 0, .null, .null, .int 0, .null, .int 0, .int 0, .int 0, .null, .null, .null, .int 0, .int 0, .int 0]) (C := "HandTablesModel") (T := T_M) (N := 20) hx hb hG u_inM tf_M tf_M_ok hown (hG _ (gw_mem 422 rfl rfl)) (hG _ (gw_mem 423 rfl rfl)) (hG _ (gw_mem 28 rfl rfl)) hKx hPx hDx hSS hA rfl (fun j hj => by
    match j with
    | 0 => rfl
    | 1 => rfl
    | 2 => rfl
    | 3 => rfl
    | 4 => rfl
    | 5 => rfl
    | 6 => rfl
    | 7 => rfl
    | 8 => rfl
    | 9 => rfl
    | 10 => rfl
    | 11 => rfl
    | 12 => rfl
    | 13 => rfl
    | 14 => rfl
    | 15 => rfl
    | 16 => rfl
    | 17 => rfl
    | 18 => rfl
    | 19 => rfl
    | n + 20 => omega) (Nat.le_of_ble_eq_true rfl) (Nat.le_of_ble_eq_true rfl) dW_8 (fun q1 H hP hD hSS => ?_)
  have hPx : va_P D cl_X (xo_W (D, cJ, cI, q0, ta, td) (fun _ => 0) (g_sorted (fun _ => 0)) 0) H := hP.sub [0, 1, 2] rfl
  have hP1 : va_P D cl_X [(q1, .inr (1, [.int 0, .null, .int 0, .null, .null, .null, .int 0, .null, .null, .int 0, .null, .int 0, .int 0, .int 0, .null, .null, .null, .int 0, .int 0, .int 0]))] H := hP.sub [3] rfl
  have hq1 : s.heap.size ≤ q1 := hD.2 3 _ rfl
  have hne : ∀ q, mu_fr (D, cJ, cI, q0, ta, td) q → q ≠ q1 := fun q h => by
    rcases h with z | z | z
    · intro y; exact absurd (hD.1 0 3 _ _ rfl rfl (z.symm.trans y)) (by decide)
    · intro y; exact absurd (hD.1 1 3 _ _ rfl rfl (z.symm.trans y)) (by decide)
    · intro y; exact absurd (hD.1 2 3 _ _ rfl rfl (z.symm.trans y)) (by decide)
  have hltx : ∀ q, mu_fr (D, cJ, cI, q0, ta, td) q → q < H.size := fun q h => by
    rcases h with z | z | z
    · rw [z]; exact (hPx 0 _ rfl).lt
    · rw [z]; exact (hPx 1 _ rfl).lt
    · rw [z]; exact (hPx 2 _ rfl).lt
  have hlt1 : q1 < H.size := (hP1 0 _ rfl).lt
  refine lv_dup hx hb dW_11 rfl ?_
  refine in_I (cM_init l D q1 H.size) bl_in hT9 ⟨gw_mem 424 rfl rfl, (gw_mem 425 rfl rfl), gw_mem 28 rfl rfl, (gw_mem 426 rfl rfl), rfl, by decide +kernel⟩ hS9 (fun U hU hW => ⟨by rw [hU], hlt1, by rw [hU]; exact hP1, va_K.moved hW.alike hK0⟩) ⟨Nat.le_of_ble_eq_true rfl, Nat.le_of_ble_eq_true rfl⟩ hl.1 (Nat.le_of_ble_eq_true rfl) ⟨Nat.le_of_ble_eq_true rfl, Nat.le_of_ble_eq_true rfl⟩ dW_12 (fun v st t Lc hst0 hal hq hLc => ?_)
  obtain ⟨hv, cI2, ad, S, had, ham, hRS, hPm, hKm, hnew, hF⟩ := hq
  cases hv
  have hKm : va_K D cl_X [(cI2, .int)] s := va_K.moved hal.symm hKm
  rw [hst0] at hnew
  have hF1 : H.size ≤ t.heap.size := by rw [← hst0]; exact hF.1
  have hF2 : ∀ q : Nat, q < H.size → q ≠ q1 → t.heap[q]? = H[q]? := fun q h1 h2 => by
    have := hF.2 q (by rw [hst0]; exact h1) (fun z => by rcases z with z | z; exact h2 z; rw [hst0] at z; omega)
    rw [hst0] at this
    exact this
  have hsz : s.heap.size ≤ H.size := hSS.1
  have hPx : va_P D cl_X (xo_W (D, cJ, cI, q0, ta, td) (fun _ => 0) (g_sorted (fun _ => 0)) 0) t.heap := hPx.kept (fun k q hk => by
    have hm : mu_fr (D, cJ, cI, q0, ta, td) q.1 := (xo_D _ _ _ hap).2 k q hk
    exact hF2 q.1 (hltx _ hm) (hne _ hm))
  have hSS : va_S (nw_A s) s.heap t.heap (locs ++ Lc) := ⟨Nat.le_trans hSS.1 hF1, fun q h1 h2 => by rw [hF2 q (by omega) (by omega)]; exact hSS.2.1 q h1 h2, fun q hq => by
    rcases List.mem_append.mp hq with z | z
    · exact hSS.2.2 q z
    · rcases hLc q z with w | w
      · show s.heap.size ≤ q.base; rw [w]; exact hq1
      · show s.heap.size ≤ q.base; omega⟩
  have hmn : ∀ q, mo_fr (D, cI2, ad) q → nw_A s q ∧ ¬ mu_fr (D, cJ, cI, q0, ta, td) q := fun q h => by
    obtain ⟨i, hi, e9⟩ := h
    have e9 : q = ad i := e9
    by_cases h9 : i = 0
    · subst h9
      rw [e9, had]
      exact ⟨hq1, fun z => hne _ z rfl⟩
    · have := hnew i (by omega) hi
      rw [← e9] at this
      exact ⟨Nat.le_trans hsz this, fun z => absurd (hltx _ z) (by omega)⟩
  clear hF hF2 hst0 hnew
  generalize t.heap = H at hPx hSS hPm hF1
  generalize (locs ++ Lc : List Loc) = locs at hSS
  clear hLc
  have hDm : va_D (nw_A s) (mo_W (D, cI2, ad) S) := (mo_D ham).weaken (fun _ q _ z => (hmn _ z).1)
  have hDD : va_D (nw_A s) (xo_W (D, cJ, cI, q0, ta, td) (fun _ => 0) (g_sorted (fun _ => 0)) 0 ++ mo_W (D, cI2, ad) S) := hDx.app hDm (fun i j x y hi hj e9 => by
    have h1 : mu_fr (D, cJ, cI, q0, ta, td) x.1 := (xo_D _ _ _ hap).2 i x hi
    have h2 : mo_fr (D, cI2, ad) y.1 := (mo_D ham).2 j y hj
    exact (hmn _ h2).2 (e9 ▸ h1))
  have hPP : va_P D cl_X (xo_W (D, cJ, cI, q0, ta, td) (fun _ => 0) (g_sorted (fun _ => 0)) 0 ++ mo_W (D, cI2, ad) S) H := hPx.app hPm
  have hl : lv_has ls 8 [(1, .ref q0), (0, .ref b)] := hl
  rw [← had]
  refine lv_astore_n (lv' := [(2, .ref (ad 0)), (1, .ref q0), (0, .ref b)]) hx hb dW_15 rfl hl (by decide) rfl (fun ls hl => ?_)
  refine lv_iconst (v := 1) hx hb dW_16 (by decide) ?_
  refine va_newa (ty := .long) (N' := 1) (a0 := (1, .inr (.inl fun _ => 0))) hx hb (hG _ (gw_mem 59 rfl rfl)) rfl hKx hPP hDD hSS hA (fun cA => rfl) (by decide) (by decide) (by decide) (Nat.le_of_ble_eq_true rfl) (Nat.le_of_ble_eq_true rfl) dW_17 (fun o cO H hK hP hD hSS => ?_)
  have e1 : s.vm.findClass ("[" ++ (FieldType.long).toString) = some cJ := (hK.2 0 _ rfl).2
  have e2 : s.vm.findClass ("[" ++ (FieldType.long).toString) = some cO := (hK.2 2 _ rfl).2
  have e3 : cO = cJ := Option.some.inj (e2.symm.trans e1)
  subst e3
  have hPq : va_P D cl_X (xq_W (D, cO, cI, q0, ta, td) o (fun _ => 0) (g_sorted (fun _ => 0)) 0 (fun _ => 0)) H := hP.sub [0, 1, 2, 14] rfl
  have hPm : va_P D cl_X (mo_W (D, cI2, ad) S) H := hP.sub [3, 4, 5, 6, 7, 8, 9, 10, 11, 12, 13] rfl
  have ho1 : nw_A s o := hD.2 14 _ rfl
  have ho : ¬ mu_fr (D, cO, cI, q0, ta, td) o := fun h => by
    rcases h with z | z | z
    · exact absurd (hD.1 14 0 _ _ rfl rfl z) (by decide)
    · exact absurd (hD.1 14 1 _ _ rfl rfl z) (by decide)
    · exact absurd (hD.1 14 2 _ _ rfl rfl z) (by decide)
  have hom : ¬ mo_fr (D, cI2, ad) o := fun h => by
    obtain ⟨i, hi, e9⟩ := h
    have hz : (xo_W (D, cO, cI, q0, ta, td) (fun _ => 0) (g_sorted (fun _ => 0)) 0 ++ mo_W (D, cI2, ad) S ++ [(o, .inl (cO, 1, .inr (.inl fun _ => 0)))])[14]? = some (o, .inl (cO, 1, .inr (.inl fun _ => 0))) := rfl
    match i with
    | 0 => exact absurd (hD.1 14 3 _ _ rfl rfl e9) (by decide)
    | 1 => exact absurd (hD.1 14 4 _ _ rfl rfl e9) (by decide)
    | 2 => exact absurd (hD.1 14 5 _ _ rfl rfl e9) (by decide)
    | 3 => exact absurd (hD.1 14 6 _ _ rfl rfl e9) (by decide)
    | 4 => exact absurd (hD.1 14 7 _ _ rfl rfl e9) (by decide)
    | 5 => exact absurd (hD.1 14 8 _ _ rfl rfl e9) (by decide)
    | 6 => exact absurd (hD.1 14 9 _ _ rfl rfl e9) (by decide)
    | 7 => exact absurd (hD.1 14 10 _ _ rfl rfl e9) (by decide)
    | 8 => exact absurd (hD.1 14 11 _ _ rfl rfl e9) (by decide)
    | 9 => exact absurd (hD.1 14 12 _ _ rfl rfl e9) (by decide)
    | 10 => exact absurd (hD.1 14 13 _ _ rfl rfl e9) (by decide)
    | n + 11 => omega
  have hC : LC s (D, cO, cI, q0, ta, td) (D, cI2, ad) o := ⟨hap, ham, ho, fun q h z => by
      rcases z with z | z
      · exact hom (z ▸ h)
      · exact (hmn q h).2 z, fun q z => by
      rcases z with z | z
      · rw [z]; exact ho1
      · exact hfr q z, fun q h => (hmn q h).1, hKx, hKm, lw_ta hts hgv, lw_ex hts hgv, lw_nc hgv⟩
  refine lv_astore_n (lv' := [(3, .ref o), (2, .ref (ad 0)), (1, .ref q0), (0, .ref b)]) hx hb dW_19 rfl hl (by decide) rfl (fun ls hl => ?_)
  refine lv_iconst (v := 0) hx hb dW_20 (by decide) ?_
  refine lv_istore (lv' := [(4, .int 0), (3, .ref o), (2, .ref (ad 0)), (1, .ref q0), (0, .ref b)]) hx hb dW_21 hl (by decide) rfl (fun ls hl => ?_)
  exact lw_loop l hst C0 hL hC 512 0 _ _ _ _ S H _ ls _ _ (Nat.zero_le _) (by omega) (Nat.le_of_ble_eq_true rfl) (Nat.le_of_ble_eq_true rfl) hPq hPm hSS (Inv0 hRS) hl
