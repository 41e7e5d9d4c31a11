/-! the model's constructor -/
section NI
variable {p : Program} {l : Launch} {e : Env} {R : Room} {s : State} {m : MethodId} {args : Array Value} {below : List Frame} {meth : Method} {c : Code} {H H0 : Heap} {locs : List Loc} {cells slots : Nat} {Q : State → Prop}
variable {cc : ByteArray} {pc : Nat} {ls : Array Slot} {rest : List Value} {D : va_G} {cl : List vw_C} {ws : va_W} {A : Nat → Prop}
/-- one more array of ints, whose class is known -/
theorem va_newI {cI : ClassId} (hexec : p.tables.exec = Jvm.exec) (hb : c.code = cc) (harr : (Cond.arrayClass .int).before args s = true) (hK : va_K D cl [(cI, .int)] s) (hP : va_P D cl ws H) (hD : va_D A ws) (hS : va_S A H0 H locs) (hA : ∀ q, H0.size ≤ q → A q)
    {n : Int32} {N' : Nat} (ha : ∀ cA : ClassId, vp_cell cA (N', .inl fun _ => 0) = arrV cA N' (fun _ => defaultValue .int)) (hn : ¬ n < 0) (hN : n.toNatClampNeg = N') (hbytes : N' * componentBytes .int ≤ 536870912) (hcells : cells + 1 ≤ R.cells) (hslots : slots + N' ≤ R.slots) (hdg : decode cc pc = .ok (.newarray .int, 2))
    (kk : ∀ (q : Nat) (H1 : Heap), va_P D cl (ws ++ [(q, .inl (cI, N', .inl fun _ => 0))]) H1 → va_D A (ws ++ [(q, .inl (cI, N', .inl fun _ => 0))]) → va_S A H0 H1 locs →
      W p l e R s m args below meth c H1 locs (cells + 1) (slots + N') Q (F0 m (pc + 2) ls (.ref q :: rest))) : W p l e R s m args below meth c H locs cells slots Q (F0 m pc ls (.int n :: rest)) := by
  refine va_newa (atype := .int) (ty := .int) (N' := N') (a0 := (N', .inl fun _ => 0)) hexec hb harr rfl hK hP hD hS hA ha hn hN hbytes hcells hslots hdg (fun q cA H1 hK1 hP1 hD1 hS1 => ?_)
  have e1 : s.vm.findClass ("[" ++ (FieldType.int).toString) = some cI := (hK.2 0 _ rfl).2
  have e2 : s.vm.findClass ("[" ++ (FieldType.int).toString) = some cA := (hK1.2 1 _ rfl).2
  have e3 : cA = cI := Option.some.inj (e2.symm.trans e1)
  subst e3
  exact kk q H1 hP1 hD1 hS1
end NI
def in_ad (a q1 q2 q3 q4 q5 q6 q7 q8 q9 q10 : Nat) (i : Nat) : Nat := [a, q1, q2, q3, q4, q5, q6, q7, q8, q9, q10].getD i 0
theorem mo_nth2 {g : mo_E} {th kc hs bs dp ct bo lc mo ah : Int32} {ks rn oc hd se bd dk wi sh lf : Nat → Int32} (i : Nat) (hi : i < 11) : ∃ x, (mo_V g th ks kc rn oc hd hs se bd bs dk dp ct bo wi sh lf lc mo ah)[i]? = some (g.2.2 i, x) := by
  match i with
  | 0 => exact ⟨_, rfl⟩
  | 1 => exact ⟨_, rfl⟩
  | 2 => exact ⟨_, rfl⟩
  | 3 => exact ⟨_, rfl⟩
  | 4 => exact ⟨_, rfl⟩
  | 5 => exact ⟨_, rfl⟩
  | 6 => exact ⟨_, rfl⟩
  | 7 => exact ⟨_, rfl⟩
  | 8 => exact ⟨_, rfl⟩
  | 9 => exact ⟨_, rfl⟩
  | 10 => exact ⟨_, rfl⟩
  | n + 11 => exact absurd hi (by omega)
theorem mo_apD {g : mo_E} {A : Nat → Prop} {th kc hs bs dp ct bo lc mo ah : Int32} {ks rn oc hd se bd dk wi sh lf : Nat → Int32} (h : va_D A (mo_V g th ks kc rn oc hd hs se bd bs dk dp ct bo wi sh lf lc mo ah)) : mo_ap g ∧ ∀ q, mo_fr g q → A q := by
  refine ⟨fun i j hi hj e => ?_, fun q hq => ?_⟩
  · obtain ⟨x, hx⟩ := mo_nth2 (g := g) (th := th) (ks := ks) (kc := kc) (rn := rn) (oc := oc) (hd := hd) (hs := hs) (se := se) (bd := bd) (bs := bs) (dk := dk) (dp := dp) (ct := ct) (bo := bo) (wi := wi) (sh := sh) (lf := lf) (lc := lc) (mo := mo) (ah := ah) i hi
    obtain ⟨y, hy⟩ := mo_nth2 (g := g) (th := th) (ks := ks) (kc := kc) (rn := rn) (oc := oc) (hd := hd) (hs := hs) (se := se) (bd := bd) (bs := bs) (dk := dk) (dp := dp) (ct := ct) (bo := bo) (wi := wi) (sh := sh) (lf := lf) (lc := lc) (mo := mo) (ah := ah) j hj
    exact h.1 i j _ _ hx hy e
  · obtain ⟨i, hi, e⟩ := hq
    obtain ⟨x, hx⟩ := mo_nth2 (g := g) (th := th) (ks := ks) (kc := kc) (rn := rn) (oc := oc) (hd := hd) (hs := hs) (se := se) (bd := bd) (bs := bs) (dk := dk) (dp := dp) (ct := ct) (bo := bo) (wi := wi) (sh := sh) (lf := lf) (lc := lc) (mo := mo) (ah := ah) i hi
    rw [e]
    exact h.2 i _ hx
theorem mo_DA {g : mo_E} {A : Nat → Prop} {th kc hs bs dp ct bo lc mo ah : Int32} {ks rn oc hd se bd dk wi sh lf : Nat → Int32} (h : mo_ap g) (hsu : ∀ q, mo_fr g q → A q) : va_D A (mo_V g th ks kc rn oc hd hs se bd bs dk dp ct bo wi sh lf lc mo ah) := ⟨(mo_D h).1, fun k q hk => hsu _ ((mo_D h).2 k q hk)⟩
def k_r5 (a b c d e : Int32) : Nat → Int32 := upd (upd (upd (upd (upd (fun _ => 0) (0 : Int32).toNatClampNeg a) (1 : Int32).toNatClampNeg b) (2 : Int32).toNatClampNeg c) (3 : Int32).toNatClampNeg d) (4 : Int32).toNatClampNeg e
abbrev k_r5f (f : Nat → Int32) (a b c d e : Int32) : Nat → Int32 := upd (upd (upd (upd (upd f (0 : Int32).toNatClampNeg a) (1 : Int32).toNatClampNeg b) (2 : Int32).toNatClampNeg c) (3 : Int32).toNatClampNeg d) (4 : Int32).toNatClampNeg e
theorem k_r5_at (f : Nat → Int32) (a b c d e : Int32) (i : Nat) (hi : i < 5) : k_r5f f a b c d e i = if i = 0 then a else if i = 1 then b else if i = 2 then c else if i = 3 then d else e := by
  match i with
  | 0 => rfl
  | 1 => rfl
  | 2 => rfl
  | 3 => rfl
  | 4 => rfl
  | n + 5 => exact absurd hi (by omega)
theorem k_r5_key (f : Nat → Int32) (a b c d e u : Int32) : k_key (k_oc (k_r5f f a b c d e)) u = k_key (k_oc (k_r5 a b c d e)) u :=
  k_key_r (fun i hi => (k_r5_at f a b c d e i hi).trans (k_r5_at (fun _ => 0) a b c d e i hi).symm) u
theorem k_r5_in {f : Nat → Int32} {a b c d e : Int32} (h1 : vp_in a 13) (h2 : vp_in b 13) (h3 : vp_in c 13) (h4 : vp_in d 13) (h5 : vp_in e 13) (i : Nat) (hi : i < 5) : vp_in (k_r5f f a b c d e i) 13 := by
  rw [k_r5_at f a b c d e i hi]
  repeat' split
  all_goals assumption
def kE1 (a b c d e : Int32) : List Int32 := (if e ≤ a then [] else [k_key (k_oc (k_r5 a b c d e)) 0]) ++ (if b ≤ a then [] else if c ≤ b then [] else if d ≤ c then [] else if e ≤ d then [] else [k_key (k_oc (k_r5 a b c d e)) 1])
def kLe (a b c d : Int32) : Nat → List Int32
  | 0 => []
  | n + 1 => kE1 a b c d (nI (13 - (n + 1))) ++ kLe a b c d n
def kLd (a b c : Int32) : Nat → List Int32
  | 0 => []
  | n + 1 => kLe a b c (nI (13 - (n + 1))) (n + 1) ++ kLd a b c n
def kLc (a b : Int32) : Nat → List Int32
  | 0 => []
  | n + 1 => kLd a b (nI (13 - (n + 1))) (n + 1) ++ kLc a b n
def kLb (a : Int32) : Nat → List Int32
  | 0 => []
  | n + 1 => kLc a (nI (13 - (n + 1))) (n + 1) ++ kLb a n
def kLa : Nat → List Int32
  | 0 => []
  | n + 1 => kLb (nI (13 - (n + 1))) (n + 1) ++ kLa n
/-- all keys, in the order in which they are made -/
def k_made : List Int32 := kLa 13
theorem k_made_len : k_made.length = 7462 := by decide +kernel
/-- the keys made so far stand in the array, and L are still to come -/
def kI (kc : Int32) (ks : Nat → Int32) (L : List Int32) : Prop := ∃ C, kc = nI C ∧ C ≤ 7462 ∧ (∀ i, i < C → ks i = k_made.getD i 0) ∧ k_made.drop C = L
theorem kI_in {kc x : Int32} {ks : Nat → Int32} {L : List Int32} (h : kI kc ks (x :: L)) : vp_in kc 7462 := by
  obtain ⟨C, h1, _, _, h3⟩ := h
  have : C < k_made.length := by
    have := congrArg List.length h3
    rw [List.length_drop, List.length_cons] at this
    omega
  rw [k_made_len] at this
  rw [h1]
  exact vp_in_nI this (by decide)
theorem kI_add {kc x y : Int32} {ks : Nat → Int32} {L : List Int32} (h : kI kc ks (x :: L)) (e : y = x) : kI (kc + 1) (upd ks kc.toNatClampNeg y) L := by
  obtain ⟨C, h1, _, h2, h3⟩ := h
  have hC : C < 7462 := by
    have := congrArg List.length h3
    rw [List.length_drop, List.length_cons, k_made_len] at this
    omega
  subst e
  refine ⟨C + 1, by rw [h1, nI_1], by omega, fun i hi => ?_, ?_⟩
  · rw [h1, nI_clamp (by omega)]
    by_cases ei : i = C
    · subst ei
      rw [pk_us]
      have h4 : (k_made.drop i)[0]? = some y := by rw [h3]; rfl
      rw [List.getElem?_drop] at h4
      rw [List.getD_eq_getElem?_getD, show k_made[i]? = some y from h4]
      rfl
    · rw [pk_un ei]
      exact h2 i (by omega)
  · rw [← List.drop_drop, h3]
    rfl
theorem kI_end {kc : Int32} {ks : Nat → Int32} (h : kI kc ks []) : kc = nI 7462 ∧ ∀ i, i < 7462 → ks i = k_made.getD i 0 := by
  obtain ⟨C, h1, h0, h2, h3⟩ := h
  have h4 := congrArg List.length h3
  rw [List.length_drop, k_made_len] at h4
  have h4 : 7462 - C = 0 := h4
  have h5 : C = 7462 := by omega
  subst h5
  exact ⟨h1, h2⟩
def ke1_lp : Nat → (Nat → Int32) → Nat → Int32
  | 0, f => f
  | n + 1, f => ke1_lp n (upd f (nI (12 - (n + 1))).toNatClampNeg (-1))
def k_se0 : Nat → Int32 := ke1_lp 12 (fun _ => 0)
/-- what the constructor leaves -/
def in_R (S : mS) : Prop := ∃ (ks rn oc : Nat → Int32), (∀ i, i < 7462 → ks i = k_made.getD i 0) ∧ S = (0, k_sort ks, nI 7462, rn, oc, (fun _ => 0), 0, k_se0, (fun _ => 0), 0, k_fresh (fun _ => 0), 0, 0, 0, (fun _ => 0), (fun _ => 0), (fun _ => 0), 0, 0, 0)
def inM_Q (D : va_G) (h0 : Nat) : Array Value → State → Outcome → State → Prop := fun _ st o t => o = .returned none ∧ ∃ (cI : ClassId) (ad : Nat → Nat) (S : mS), ad 0 = h0 ∧ mo_ap (D, cI, ad) ∧ in_R S ∧ va_P D cl_X (mo_W (D, cI, ad) S) t.heap ∧ va_K D cl_X [(cI, .int)] t ∧ (∀ i, 1 ≤ i → i < 11 → st.heap.size ≤ ad i) ∧ va_F (in_A h0 st.heap.size) st t
set_option maxHeartbeats 8000000 in
set_option maxRecDepth 100000 in
theorem cM_init (l : Launch) (D : va_G) (h0 sz : Nat) : Met l yM_init (wd yM_init bM_init 6 none) (rmD 3 10 7620) (va_Pc [.ref h0] (fun U => U.heap.size = sz ∧ h0 < sz ∧ va_P D cl_X [(h0, .inr (1, [.int 0, .null, .int 0, .null, .null, .null, .int 0, .null, .null, .int 0, .null, .int 0, .int 0, .int 0, .null, .null, .null, .int 0, .int 0, .int 0]))] U.heap ∧ va_K D cl_X [] U)) (inM_Q D h0) 10 7620 (in_A h0 sz) := by
  refine Met.ofW (cc := bM_init) (maxL := 6) (ret := none) (by decide) rfl ?_
  intro p e s m args below meth c s₁ BB hml hv
  obtain ⟨rfl, hsz, hlt, hP, hK⟩ := hv
  subst hsz
  have hx := BB.exec
  have hb := BB.bytes
  have hr := BB.returns
  have hlk := BB.notSynchronized
  have hin : meth.name = "<init>" := (name_of_methodNamed BB.named BB.method).1
  have hts := atoms_spec (ws := wd yM_init bM_init 6 none) BB.pre
  have hown : s.vm.findClass "HandTablesModel" = some m.cls := findClass_of_methodNamed BB.named
  have hS : CallFix p m c bM_init 6 s _ (wd yM_init bM_init 6 none) "HandTablesModel" := ⟨hx, hb, hml, hown, hts⟩
  have hD : va_D (in_A h0 s.heap.size) [(h0, .inr (1, [.int 0, .null, .int 0, .null, .null, .null, .int 0, .null, .null, .int 0, .null, .int 0, .int 0, .int 0, .null, .null, .null, .int 0, .int 0, .int 0]))] := by
    refine ⟨fun i j x y hi hj _ => ?_, fun k q hk => ?_⟩
    · match i, j with
      | 0, 0 => rfl
      | _, n + 1 => cases hj
      | n + 1, 0 => cases hi
    · match k with
      | 0 => cases hk; exact Or.inl rfl
      | n + 1 => cases hk
  have hA : ∀ q : Nat, s.heap.size ≤ q → in_A h0 s.heap.size q := fun q h => Or.inr h
  have hSS : va_S (in_A h0 s.heap.size) s.heap s.heap [] := va_S.rf
  have hl := lv_entry ([.ref h0]) (n := 6) (Nat.le_of_ble_eq_true rfl)
  rw [lg_entry_eq]
  generalize (lg_sl ([.ref h0]) ++ List.replicate (6 - (lg_sl ([.ref h0])).length) Slot.unset).toArray = ls at hl ⊢
  have hl : lv_has ls 6 [(0, .ref h0)] := hl
  refine lv_aload_n hx hb dM_init_0 rfl (lv_at hl 0 rfl) ?_
  refine W.objInit hx hb hown (hts _ (wd_in (gw_mem 427 rfl rfl))) (hts _ (wd_in (gw_mem 43 rfl rfl))) (hts _ (wd_in (gw_mem 44 rfl rfl))) rfl (by rw [hml]; exact hl.1) rfl dM_init_1 (Nat.le_of_ble_eq_true rfl) (Nat.le_of_ble_eq_true rfl) ?_
  refine W.eq (g2 := F0 m 4 ls []) rfl ?_
  refine lv_aload_n hx hb dM_init_4 rfl (lv_at hl 0 rfl) ?_
  refine lv_sipush (v := 7462) hx hb dM_init_5 (by decide) ?_
  refine va_newa (ty := .int) (N' := 7462) (a0 := (7462, .inl fun _ => 0)) hx hb (hts _ (wd_in (gw_mem 60 rfl rfl))) rfl hK hP hD hSS hA (fun cA => rfl) (by decide) (by decide) (by decide) (Nat.le_of_ble_eq_true rfl) (Nat.le_of_ble_eq_true rfl) dM_init_8 (fun q1 cI H hK hP hD hSS => ?_)
  have hK : va_K D cl_X [(cI, .int)] s := hK
  have hP : va_P D cl_X [(h0, .inr (1, [.int 0, .null, .int 0, .null, .null, .null, .int 0, .null, .null, .int 0, .null, .int 0, .int 0, .int 0, .null, .null, .null, .int 0, .int 0, .int 0])), (q1, .inl (cI, 7462, .inl fun _ => 0))] H := hP
  have hD : va_D (in_A h0 s.heap.size) [(h0, .inr (1, [.int 0, .null, .int 0, .null, .null, .null, .int 0, .null, .null, .int 0, .null, .int 0, .int 0, .int 0, .null, .null, .null, .int 0, .int 0, .int 0])), (q1, .inl (cI, 7462, .inl fun _ => 0))] := hD
  refine va_putF (D := D) (ci := 1) (v := .ref q1) (ty := .array .int) (C := "HandTablesModel") (T := T_M) (N := 20) hx hb hts (fun w hw => wd_in (u_inM w hw)) tf_M tf_M_ok n_M hown hK hP hD hSS 0 rfl rfl 1 (by decide) (hts _ (wd_in (gw_mem 458 rfl rfl))) (fun _ h9 => h9) rfl hin rfl (by decide +kernel) rfl rfl (Nat.le_of_ble_eq_true rfl) dM_init_10 (fun H locs hP hD hSS => ?_)
  have hP : va_P D cl_X [(h0, .inr (1, [.int 0, .ref q1, .int 0, .null, .null, .null, .int 0, .null, .null, .int 0, .null, .int 0, .int 0, .int 0, .null, .null, .null, .int 0, .int 0, .int 0])), (q1, .inl (cI, 7462, .inl fun _ => 0))] H := hP
  have hD : va_D (in_A h0 s.heap.size) [(h0, .inr (1, [.int 0, .ref q1, .int 0, .null, .null, .null, .int 0, .null, .null, .int 0, .null, .int 0, .int 0, .int 0, .null, .null, .null, .int 0, .int 0, .int 0])), (q1, .inl (cI, 7462, .inl fun _ => 0))] := hD
  refine lv_aload_n hx hb dM_init_13 rfl (lv_at hl 0 rfl) ?_
  refine lv_iconst (v := 5) hx hb dM_init_14 (by decide) ?_
  refine va_newI (N' := 5) hx hb (hts _ (wd_in (gw_mem 60 rfl rfl))) hK hP hD hSS hA (fun cA => rfl) (by decide) (by decide) (by decide) (Nat.le_of_ble_eq_true rfl) (Nat.le_of_ble_eq_true rfl) dM_init_15 (fun q2 H hP hD hSS => ?_)
  have hP : va_P D cl_X [(h0, .inr (1, [.int 0, .ref q1, .int 0, .null, .null, .null, .int 0, .null, .null, .int 0, .null, .int 0, .int 0, .int 0, .null, .null, .null, .int 0, .int 0, .int 0])), (q1, .inl (cI, 7462, .inl fun _ => 0)), (q2, .inl (cI, 5, .inl fun _ => 0))] H := hP
  have hD : va_D (in_A h0 s.heap.size) [(h0, .inr (1, [.int 0, .ref q1, .int 0, .null, .null, .null, .int 0, .null, .null, .int 0, .null, .int 0, .int 0, .int 0, .null, .null, .null, .int 0, .int 0, .int 0])), (q1, .inl (cI, 7462, .inl fun _ => 0)), (q2, .inl (cI, 5, .inl fun _ => 0))] := hD
  refine va_putF (D := D) (ci := 1) (v := .ref q2) (ty := .array .int) (C := "HandTablesModel") (T := T_M) (N := 20) hx hb hts (fun w hw => wd_in (u_inM w hw)) tf_M tf_M_ok n_M hown hK hP hD hSS 0 rfl rfl 3 (by decide) (hts _ (wd_in (gw_mem 460 rfl rfl))) (fun _ h9 => h9) rfl hin rfl (by decide +kernel) rfl rfl (Nat.le_of_ble_eq_true rfl) dM_init_17 (fun H locs hP hD hSS => ?_)
  have hP : va_P D cl_X [(h0, .inr (1, [.int 0, .ref q1, .int 0, .ref q2, .null, .null, .int 0, .null, .null, .int 0, .null, .int 0, .int 0, .int 0, .null, .null, .null, .int 0, .int 0, .int 0])), (q1, .inl (cI, 7462, .inl fun _ => 0)), (q2, .inl (cI, 5, .inl fun _ => 0))] H := hP
  have hD : va_D (in_A h0 s.heap.size) [(h0, .inr (1, [.int 0, .ref q1, .int 0, .ref q2, .null, .null, .int 0, .null, .null, .int 0, .null, .int 0, .int 0, .int 0, .null, .null, .null, .int 0, .int 0, .int 0])), (q1, .inl (cI, 7462, .inl fun _ => 0)), (q2, .inl (cI, 5, .inl fun _ => 0))] := hD
  refine lv_aload_n hx hb dM_init_20 rfl (lv_at hl 0 rfl) ?_
  refine lv_bipush (v := 13) hx hb dM_init_21 (by decide) ?_
  refine va_newI (N' := 13) hx hb (hts _ (wd_in (gw_mem 60 rfl rfl))) hK hP hD hSS hA (fun cA => rfl) (by decide) (by decide) (by decide) (Nat.le_of_ble_eq_true rfl) (Nat.le_of_ble_eq_true rfl) dM_init_23 (fun q3 H hP hD hSS => ?_)
  have hP : va_P D cl_X [(h0, .inr (1, [.int 0, .ref q1, .int 0, .ref q2, .null, .null, .int 0, .null, .null, .int 0, .null, .int 0, .int 0, .int 0, .null, .null, .null, .int 0, .int 0, .int 0])), (q1, .inl (cI, 7462, .inl fun _ => 0)), (q2, .inl (cI, 5, .inl fun _ => 0)), (q3, .inl (cI, 13, .inl fun _ => 0))] H := hP
  have hD : va_D (in_A h0 s.heap.size) [(h0, .inr (1, [.int 0, .ref q1, .int 0, .ref q2, .null, .null, .int 0, .null, .null, .int 0, .null, .int 0, .int 0, .int 0, .null, .null, .null, .int 0, .int 0, .int 0])), (q1, .inl (cI, 7462, .inl fun _ => 0)), (q2, .inl (cI, 5, .inl fun _ => 0)), (q3, .inl (cI, 13, .inl fun _ => 0))] := hD
  refine va_putF (D := D) (ci := 1) (v := .ref q3) (ty := .array .int) (C := "HandTablesModel") (T := T_M) (N := 20) hx hb hts (fun w hw => wd_in (u_inM w hw)) tf_M tf_M_ok n_M hown hK hP hD hSS 0 rfl rfl 4 (by decide) (hts _ (wd_in (gw_mem 461 rfl rfl))) (fun _ h9 => h9) rfl hin rfl (by decide +kernel) rfl rfl (Nat.le_of_ble_eq_true rfl) dM_init_25 (fun H locs hP hD hSS => ?_)
  have hP : va_P D cl_X [(h0, .inr (1, [.int 0, .ref q1, .int 0, .ref q2, .ref q3, .null, .int 0, .null, .null, .int 0, .null, .int 0, .int 0, .int 0, .null, .null, .null, .int 0, .int 0, .int 0])), (q1, .inl (cI, 7462, .inl fun _ => 0)), (q2, .inl (cI, 5, .inl fun _ => 0)), (q3, .inl (cI, 13, .inl fun _ => 0))] H := hP
  have hD : va_D (in_A h0 s.heap.size) [(h0, .inr (1, [.int 0, .ref q1, .int 0, .ref q2, .ref q3, .null, .int 0, .null, .null, .int 0, .null, .int 0, .int 0, .int 0, .null, .null, .null, .int 0, .int 0, .int 0])), (q1, .inl (cI, 7462, .inl fun _ => 0)), (q2, .inl (cI, 5, .inl fun _ => 0)), (q3, .inl (cI, 13, .inl fun _ => 0))] := hD
  refine lv_aload_n hx hb dM_init_28 rfl (lv_at hl 0 rfl) ?_
  refine lv_bipush (v := 7) hx hb dM_init_29 (by decide) ?_
  refine va_newI (N' := 7) hx hb (hts _ (wd_in (gw_mem 60 rfl rfl))) hK hP hD hSS hA (fun cA => rfl) (by decide) (by decide) (by decide) (Nat.le_of_ble_eq_true rfl) (Nat.le_of_ble_eq_true rfl) dM_init_31 (fun q4 H hP hD hSS => ?_)
  have hP : va_P D cl_X [(h0, .inr (1, [.int 0, .ref q1, .int 0, .ref q2, .ref q3, .null, .int 0, .null, .null, .int 0, .null, .int 0, .int 0, .int 0, .null, .null, .null, .int 0, .int 0, .int 0])), (q1, .inl (cI, 7462, .inl fun _ => 0)), (q2, .inl (cI, 5, .inl fun _ => 0)), (q3, .inl (cI, 13, .inl fun _ => 0)), (q4, .inl (cI, 7, .inl fun _ => 0))] H := hP
  have hD : va_D (in_A h0 s.heap.size) [(h0, .inr (1, [.int 0, .ref q1, .int 0, .ref q2, .ref q3, .null, .int 0, .null, .null, .int 0, .null, .int 0, .int 0, .int 0, .null, .null, .null, .int 0, .int 0, .int 0])), (q1, .inl (cI, 7462, .inl fun _ => 0)), (q2, .inl (cI, 5, .inl fun _ => 0)), (q3, .inl (cI, 13, .inl fun _ => 0)), (q4, .inl (cI, 7, .inl fun _ => 0))] := hD
  refine va_putF (D := D) (ci := 1) (v := .ref q4) (ty := .array .int) (C := "HandTablesModel") (T := T_M) (N := 20) hx hb hts (fun w hw => wd_in (u_inM w hw)) tf_M tf_M_ok n_M hown hK hP hD hSS 0 rfl rfl 5 (by decide) (hts _ (wd_in (gw_mem 462 rfl rfl))) (fun _ h9 => h9) rfl hin rfl (by decide +kernel) rfl rfl (Nat.le_of_ble_eq_true rfl) dM_init_33 (fun H locs hP hD hSS => ?_)
  have hP : va_P D cl_X [(h0, .inr (1, [.int 0, .ref q1, .int 0, .ref q2, .ref q3, .ref q4, .int 0, .null, .null, .int 0, .null, .int 0, .int 0, .int 0, .null, .null, .null, .int 0, .int 0, .int 0])), (q1, .inl (cI, 7462, .inl fun _ => 0)), (q2, .inl (cI, 5, .inl fun _ => 0)), (q3, .inl (cI, 13, .inl fun _ => 0)), (q4, .inl (cI, 7, .inl fun _ => 0))] H := hP
  have hD : va_D (in_A h0 s.heap.size) [(h0, .inr (1, [.int 0, .ref q1, .int 0, .ref q2, .ref q3, .ref q4, .int 0, .null, .null, .int 0, .null, .int 0, .int 0, .int 0, .null, .null, .null, .int 0, .int 0, .int 0])), (q1, .inl (cI, 7462, .inl fun _ => 0)), (q2, .inl (cI, 5, .inl fun _ => 0)), (q3, .inl (cI, 13, .inl fun _ => 0)), (q4, .inl (cI, 7, .inl fun _ => 0))] := hD
  refine lv_aload_n hx hb dM_init_36 rfl (lv_at hl 0 rfl) ?_
  refine lv_bipush (v := 12) hx hb dM_init_37 (by decide) ?_
  refine va_newI (N' := 12) hx hb (hts _ (wd_in (gw_mem 60 rfl rfl))) hK hP hD hSS hA (fun cA => rfl) (by decide) (by decide) (by decide) (Nat.le_of_ble_eq_true rfl) (Nat.le_of_ble_eq_true rfl) dM_init_39 (fun q5 H hP hD hSS => ?_)
  have hP : va_P D cl_X [(h0, .inr (1, [.int 0, .ref q1, .int 0, .ref q2, .ref q3, .ref q4, .int 0, .null, .null, .int 0, .null, .int 0, .int 0, .int 0, .null, .null, .null, .int 0, .int 0, .int 0])), (q1, .inl (cI, 7462, .inl fun _ => 0)), (q2, .inl (cI, 5, .inl fun _ => 0)), (q3, .inl (cI, 13, .inl fun _ => 0)), (q4, .inl (cI, 7, .inl fun _ => 0)), (q5, .inl (cI, 12, .inl fun _ => 0))] H := hP
  have hD : va_D (in_A h0 s.heap.size) [(h0, .inr (1, [.int 0, .ref q1, .int 0, .ref q2, .ref q3, .ref q4, .int 0, .null, .null, .int 0, .null, .int 0, .int 0, .int 0, .null, .null, .null, .int 0, .int 0, .int 0])), (q1, .inl (cI, 7462, .inl fun _ => 0)), (q2, .inl (cI, 5, .inl fun _ => 0)), (q3, .inl (cI, 13, .inl fun _ => 0)), (q4, .inl (cI, 7, .inl fun _ => 0)), (q5, .inl (cI, 12, .inl fun _ => 0))] := hD
  refine va_putF (D := D) (ci := 1) (v := .ref q5) (ty := .array .int) (C := "HandTablesModel") (T := T_M) (N := 20) hx hb hts (fun w hw => wd_in (u_inM w hw)) tf_M tf_M_ok n_M hown hK hP hD hSS 0 rfl rfl 7 (by decide) (hts _ (wd_in (gw_mem 464 rfl rfl))) (fun _ h9 => h9) rfl hin rfl (by decide +kernel) rfl rfl (Nat.le_of_ble_eq_true rfl) dM_init_41 (fun H locs hP hD hSS => ?_)
  have hP : va_P D cl_X [(h0, .inr (1, [.int 0, .ref q1, .int 0, .ref q2, .ref q3, .ref q4, .int 0, .ref q5, .null, .int 0, .null, .int 0, .int 0, .int 0, .null, .null, .null, .int 0, .int 0, .int 0])), (q1, .inl (cI, 7462, .inl fun _ => 0)), (q2, .inl (cI, 5, .inl fun _ => 0)), (q3, .inl (cI, 13, .inl fun _ => 0)), (q4, .inl (cI, 7, .inl fun _ => 0)), (q5, .inl (cI, 12, .inl fun _ => 0))] H := hP
  have hD : va_D (in_A h0 s.heap.size) [(h0, .inr (1, [.int 0, .ref q1, .int 0, .ref q2, .ref q3, .ref q4, .int 0, .ref q5, .null, .int 0, .null, .int 0, .int 0, .int 0, .null, .null, .null, .int 0, .int 0, .int 0])), (q1, .inl (cI, 7462, .inl fun _ => 0)), (q2, .inl (cI, 5, .inl fun _ => 0)), (q3, .inl (cI, 13, .inl fun _ => 0)), (q4, .inl (cI, 7, .inl fun _ => 0)), (q5, .inl (cI, 12, .inl fun _ => 0))] := hD
  refine lv_aload_n hx hb dM_init_44 rfl (lv_at hl 0 rfl) ?_
  refine lv_iconst (v := 5) hx hb dM_init_45 (by decide) ?_
  refine va_newI (N' := 5) hx hb (hts _ (wd_in (gw_mem 60 rfl rfl))) hK hP hD hSS hA (fun cA => rfl) (by decide) (by decide) (by decide) (Nat.le_of_ble_eq_true rfl) (Nat.le_of_ble_eq_true rfl) dM_init_46 (fun q6 H hP hD hSS => ?_)
  have hP : va_P D cl_X [(h0, .inr (1, [.int 0, .ref q1, .int 0, .ref q2, .ref q3, .ref q4, .int 0, .ref q5, .null, .int 0, .null, .int 0, .int 0, .int 0, .null, .null, .null, .int 0, .int 0, .int 0])), (q1, .inl (cI, 7462, .inl fun _ => 0)), (q2, .inl (cI, 5, .inl fun _ => 0)), (q3, .inl (cI, 13, .inl fun _ => 0)), (q4, .inl (cI, 7, .inl fun _ => 0)), (q5, .inl (cI, 12, .inl fun _ => 0)), (q6, .inl (cI, 5, .inl fun _ => 0))] H := hP
  have hD : va_D (in_A h0 s.heap.size) [(h0, .inr (1, [.int 0, .ref q1, .int 0, .ref q2, .ref q3, .ref q4, .int 0, .ref q5, .null, .int 0, .null, .int 0, .int 0, .int 0, .null, .null, .null, .int 0, .int 0, .int 0])), (q1, .inl (cI, 7462, .inl fun _ => 0)), (q2, .inl (cI, 5, .inl fun _ => 0)), (q3, .inl (cI, 13, .inl fun _ => 0)), (q4, .inl (cI, 7, .inl fun _ => 0)), (q5, .inl (cI, 12, .inl fun _ => 0)), (q6, .inl (cI, 5, .inl fun _ => 0))] := hD
  refine va_putF (D := D) (ci := 1) (v := .ref q6) (ty := .array .int) (C := "HandTablesModel") (T := T_M) (N := 20) hx hb hts (fun w hw => wd_in (u_inM w hw)) tf_M tf_M_ok n_M hown hK hP hD hSS 0 rfl rfl 8 (by decide) (hts _ (wd_in (gw_mem 465 rfl rfl))) (fun _ h9 => h9) rfl hin rfl (by decide +kernel) rfl rfl (Nat.le_of_ble_eq_true rfl) dM_init_48 (fun H locs hP hD hSS => ?_)
  have hP : va_P D cl_X [(h0, .inr (1, [.int 0, .ref q1, .int 0, .ref q2, .ref q3, .ref q4, .int 0, .ref q5, .ref q6, .int 0, .null, .int 0, .int 0, .int 0, .null, .null, .null, .int 0, .int 0, .int 0])), (q1, .inl (cI, 7462, .inl fun _ => 0)), (q2, .inl (cI, 5, .inl fun _ => 0)), (q3, .inl (cI, 13, .inl fun _ => 0)), (q4, .inl (cI, 7, .inl fun _ => 0)), (q5, .inl (cI, 12, .inl fun _ => 0)), (q6, .inl (cI, 5, .inl fun _ => 0))] H := hP
  have hD : va_D (in_A h0 s.heap.size) [(h0, .inr (1, [.int 0, .ref q1, .int 0, .ref q2, .ref q3, .ref q4, .int 0, .ref q5, .ref q6, .int 0, .null, .int 0, .int 0, .int 0, .null, .null, .null, .int 0, .int 0, .int 0])), (q1, .inl (cI, 7462, .inl fun _ => 0)), (q2, .inl (cI, 5, .inl fun _ => 0)), (q3, .inl (cI, 13, .inl fun _ => 0)), (q4, .inl (cI, 7, .inl fun _ => 0)), (q5, .inl (cI, 12, .inl fun _ => 0)), (q6, .inl (cI, 5, .inl fun _ => 0))] := hD
  refine lv_aload_n hx hb dM_init_51 rfl (lv_at hl 0 rfl) ?_
  refine lv_bipush (v := 52) hx hb dM_init_52 (by decide) ?_
  refine va_newI (N' := 52) hx hb (hts _ (wd_in (gw_mem 60 rfl rfl))) hK hP hD hSS hA (fun cA => rfl) (by decide) (by decide) (by decide) (Nat.le_of_ble_eq_true rfl) (Nat.le_of_ble_eq_true rfl) dM_init_54 (fun q7 H hP hD hSS => ?_)
  have hP : va_P D cl_X [(h0, .inr (1, [.int 0, .ref q1, .int 0, .ref q2, .ref q3, .ref q4, .int 0, .ref q5, .ref q6, .int 0, .null, .int 0, .int 0, .int 0, .null, .null, .null, .int 0, .int 0, .int 0])), (q1, .inl (cI, 7462, .inl fun _ => 0)), (q2, .inl (cI, 5, .inl fun _ => 0)), (q3, .inl (cI, 13, .inl fun _ => 0)), (q4, .inl (cI, 7, .inl fun _ => 0)), (q5, .inl (cI, 12, .inl fun _ => 0)), (q6, .inl (cI, 5, .inl fun _ => 0)), (q7, .inl (cI, 52, .inl fun _ => 0))] H := hP
  have hD : va_D (in_A h0 s.heap.size) [(h0, .inr (1, [.int 0, .ref q1, .int 0, .ref q2, .ref q3, .ref q4, .int 0, .ref q5, .ref q6, .int 0, .null, .int 0, .int 0, .int 0, .null, .null, .null, .int 0, .int 0, .int 0])), (q1, .inl (cI, 7462, .inl fun _ => 0)), (q2, .inl (cI, 5, .inl fun _ => 0)), (q3, .inl (cI, 13, .inl fun _ => 0)), (q4, .inl (cI, 7, .inl fun _ => 0)), (q5, .inl (cI, 12, .inl fun _ => 0)), (q6, .inl (cI, 5, .inl fun _ => 0)), (q7, .inl (cI, 52, .inl fun _ => 0))] := hD
  refine va_putF (D := D) (ci := 1) (v := .ref q7) (ty := .array .int) (C := "HandTablesModel") (T := T_M) (N := 20) hx hb hts (fun w hw => wd_in (u_inM w hw)) tf_M tf_M_ok n_M hown hK hP hD hSS 0 rfl rfl 10 (by decide) (hts _ (wd_in (gw_mem 467 rfl rfl))) (fun _ h9 => h9) rfl hin rfl (by decide +kernel) rfl rfl (Nat.le_of_ble_eq_true rfl) dM_init_56 (fun H locs hP hD hSS => ?_)
  have hP : va_P D cl_X [(h0, .inr (1, [.int 0, .ref q1, .int 0, .ref q2, .ref q3, .ref q4, .int 0, .ref q5, .ref q6, .int 0, .ref q7, .int 0, .int 0, .int 0, .null, .null, .null, .int 0, .int 0, .int 0])), (q1, .inl (cI, 7462, .inl fun _ => 0)), (q2, .inl (cI, 5, .inl fun _ => 0)), (q3, .inl (cI, 13, .inl fun _ => 0)), (q4, .inl (cI, 7, .inl fun _ => 0)), (q5, .inl (cI, 12, .inl fun _ => 0)), (q6, .inl (cI, 5, .inl fun _ => 0)), (q7, .inl (cI, 52, .inl fun _ => 0))] H := hP
  have hD : va_D (in_A h0 s.heap.size) [(h0, .inr (1, [.int 0, .ref q1, .int 0, .ref q2, .ref q3, .ref q4, .int 0, .ref q5, .ref q6, .int 0, .ref q7, .int 0, .int 0, .int 0, .null, .null, .null, .int 0, .int 0, .int 0])), (q1, .inl (cI, 7462, .inl fun _ => 0)), (q2, .inl (cI, 5, .inl fun _ => 0)), (q3, .inl (cI, 13, .inl fun _ => 0)), (q4, .inl (cI, 7, .inl fun _ => 0)), (q5, .inl (cI, 12, .inl fun _ => 0)), (q6, .inl (cI, 5, .inl fun _ => 0)), (q7, .inl (cI, 52, .inl fun _ => 0))] := hD
  refine lv_aload_n hx hb dM_init_59 rfl (lv_at hl 0 rfl) ?_
  refine lv_bipush (v := 6) hx hb dM_init_60 (by decide) ?_
  refine va_newI (N' := 6) hx hb (hts _ (wd_in (gw_mem 60 rfl rfl))) hK hP hD hSS hA (fun cA => rfl) (by decide) (by decide) (by decide) (Nat.le_of_ble_eq_true rfl) (Nat.le_of_ble_eq_true rfl) dM_init_62 (fun q8 H hP hD hSS => ?_)
  have hP : va_P D cl_X [(h0, .inr (1, [.int 0, .ref q1, .int 0, .ref q2, .ref q3, .ref q4, .int 0, .ref q5, .ref q6, .int 0, .ref q7, .int 0, .int 0, .int 0, .null, .null, .null, .int 0, .int 0, .int 0])), (q1, .inl (cI, 7462, .inl fun _ => 0)), (q2, .inl (cI, 5, .inl fun _ => 0)), (q3, .inl (cI, 13, .inl fun _ => 0)), (q4, .inl (cI, 7, .inl fun _ => 0)), (q5, .inl (cI, 12, .inl fun _ => 0)), (q6, .inl (cI, 5, .inl fun _ => 0)), (q7, .inl (cI, 52, .inl fun _ => 0)), (q8, .inl (cI, 6, .inl fun _ => 0))] H := hP
  have hD : va_D (in_A h0 s.heap.size) [(h0, .inr (1, [.int 0, .ref q1, .int 0, .ref q2, .ref q3, .ref q4, .int 0, .ref q5, .ref q6, .int 0, .ref q7, .int 0, .int 0, .int 0, .null, .null, .null, .int 0, .int 0, .int 0])), (q1, .inl (cI, 7462, .inl fun _ => 0)), (q2, .inl (cI, 5, .inl fun _ => 0)), (q3, .inl (cI, 13, .inl fun _ => 0)), (q4, .inl (cI, 7, .inl fun _ => 0)), (q5, .inl (cI, 12, .inl fun _ => 0)), (q6, .inl (cI, 5, .inl fun _ => 0)), (q7, .inl (cI, 52, .inl fun _ => 0)), (q8, .inl (cI, 6, .inl fun _ => 0))] := hD
  refine va_putF (D := D) (ci := 1) (v := .ref q8) (ty := .array .int) (C := "HandTablesModel") (T := T_M) (N := 20) hx hb hts (fun w hw => wd_in (u_inM w hw)) tf_M tf_M_ok n_M hown hK hP hD hSS 0 rfl rfl 14 (by decide) (hts _ (wd_in (gw_mem 471 rfl rfl))) (fun _ h9 => h9) rfl hin rfl (by decide +kernel) rfl rfl (Nat.le_of_ble_eq_true rfl) dM_init_64 (fun H locs hP hD hSS => ?_)
  have hP : va_P D cl_X [(h0, .inr (1, [.int 0, .ref q1, .int 0, .ref q2, .ref q3, .ref q4, .int 0, .ref q5, .ref q6, .int 0, .ref q7, .int 0, .int 0, .int 0, .ref q8, .null, .null, .int 0, .int 0, .int 0])), (q1, .inl (cI, 7462, .inl fun _ => 0)), (q2, .inl (cI, 5, .inl fun _ => 0)), (q3, .inl (cI, 13, .inl fun _ => 0)), (q4, .inl (cI, 7, .inl fun _ => 0)), (q5, .inl (cI, 12, .inl fun _ => 0)), (q6, .inl (cI, 5, .inl fun _ => 0)), (q7, .inl (cI, 52, .inl fun _ => 0)), (q8, .inl (cI, 6, .inl fun _ => 0))] H := hP
  have hD : va_D (in_A h0 s.heap.size) [(h0, .inr (1, [.int 0, .ref q1, .int 0, .ref q2, .ref q3, .ref q4, .int 0, .ref q5, .ref q6, .int 0, .ref q7, .int 0, .int 0, .int 0, .ref q8, .null, .null, .int 0, .int 0, .int 0])), (q1, .inl (cI, 7462, .inl fun _ => 0)), (q2, .inl (cI, 5, .inl fun _ => 0)), (q3, .inl (cI, 13, .inl fun _ => 0)), (q4, .inl (cI, 7, .inl fun _ => 0)), (q5, .inl (cI, 12, .inl fun _ => 0)), (q6, .inl (cI, 5, .inl fun _ => 0)), (q7, .inl (cI, 52, .inl fun _ => 0)), (q8, .inl (cI, 6, .inl fun _ => 0))] := hD
  refine lv_aload_n hx hb dM_init_67 rfl (lv_at hl 0 rfl) ?_
  refine lv_bipush (v := 6) hx hb dM_init_68 (by decide) ?_
  refine va_newI (N' := 6) hx hb (hts _ (wd_in (gw_mem 60 rfl rfl))) hK hP hD hSS hA (fun cA => rfl) (by decide) (by decide) (by decide) (Nat.le_of_ble_eq_true rfl) (Nat.le_of_ble_eq_true rfl) dM_init_70 (fun q9 H hP hD hSS => ?_)
  have hP : va_P D cl_X [(h0, .inr (1, [.int 0, .ref q1, .int 0, .ref q2, .ref q3, .ref q4, .int 0, .ref q5, .ref q6, .int 0, .ref q7, .int 0, .int 0, .int 0, .ref q8, .null, .null, .int 0, .int 0, .int 0])), (q1, .inl (cI, 7462, .inl fun _ => 0)), (q2, .inl (cI, 5, .inl fun _ => 0)), (q3, .inl (cI, 13, .inl fun _ => 0)), (q4, .inl (cI, 7, .inl fun _ => 0)), (q5, .inl (cI, 12, .inl fun _ => 0)), (q6, .inl (cI, 5, .inl fun _ => 0)), (q7, .inl (cI, 52, .inl fun _ => 0)), (q8, .inl (cI, 6, .inl fun _ => 0)), (q9, .inl (cI, 6, .inl fun _ => 0))] H := hP
  have hD : va_D (in_A h0 s.heap.size) [(h0, .inr (1, [.int 0, .ref q1, .int 0, .ref q2, .ref q3, .ref q4, .int 0, .ref q5, .ref q6, .int 0, .ref q7, .int 0, .int 0, .int 0, .ref q8, .null, .null, .int 0, .int 0, .int 0])), (q1, .inl (cI, 7462, .inl fun _ => 0)), (q2, .inl (cI, 5, .inl fun _ => 0)), (q3, .inl (cI, 13, .inl fun _ => 0)), (q4, .inl (cI, 7, .inl fun _ => 0)), (q5, .inl (cI, 12, .inl fun _ => 0)), (q6, .inl (cI, 5, .inl fun _ => 0)), (q7, .inl (cI, 52, .inl fun _ => 0)), (q8, .inl (cI, 6, .inl fun _ => 0)), (q9, .inl (cI, 6, .inl fun _ => 0))] := hD
  refine va_putF (D := D) (ci := 1) (v := .ref q9) (ty := .array .int) (C := "HandTablesModel") (T := T_M) (N := 20) hx hb hts (fun w hw => wd_in (u_inM w hw)) tf_M tf_M_ok n_M hown hK hP hD hSS 0 rfl rfl 15 (by decide) (hts _ (wd_in (gw_mem 472 rfl rfl))) (fun _ h9 => h9) rfl hin rfl (by decide +kernel) rfl rfl (Nat.le_of_ble_eq_true rfl) dM_init_72 (fun H locs hP hD hSS => ?_)
  have hP : va_P D cl_X [(h0, .inr (1, [.int 0, .ref q1, .int 0, .ref q2, .ref q3, .ref q4, .int 0, .ref q5, .ref q6, .int 0, .ref q7, .int 0, .int 0, .int 0, .ref q8, .ref q9, .null, .int 0, .int 0, .int 0])), (q1, .inl (cI, 7462, .inl fun _ => 0)), (q2, .inl (cI, 5, .inl fun _ => 0)), (q3, .inl (cI, 13, .inl fun _ => 0)), (q4, .inl (cI, 7, .inl fun _ => 0)), (q5, .inl (cI, 12, .inl fun _ => 0)), (q6, .inl (cI, 5, .inl fun _ => 0)), (q7, .inl (cI, 52, .inl fun _ => 0)), (q8, .inl (cI, 6, .inl fun _ => 0)), (q9, .inl (cI, 6, .inl fun _ => 0))] H := hP
  have hD : va_D (in_A h0 s.heap.size) [(h0, .inr (1, [.int 0, .ref q1, .int 0, .ref q2, .ref q3, .ref q4, .int 0, .ref q5, .ref q6, .int 0, .ref q7, .int 0, .int 0, .int 0, .ref q8, .ref q9, .null, .int 0, .int 0, .int 0])), (q1, .inl (cI, 7462, .inl fun _ => 0)), (q2, .inl (cI, 5, .inl fun _ => 0)), (q3, .inl (cI, 13, .inl fun _ => 0)), (q4, .inl (cI, 7, .inl fun _ => 0)), (q5, .inl (cI, 12, .inl fun _ => 0)), (q6, .inl (cI, 5, .inl fun _ => 0)), (q7, .inl (cI, 52, .inl fun _ => 0)), (q8, .inl (cI, 6, .inl fun _ => 0)), (q9, .inl (cI, 6, .inl fun _ => 0))] := hD
  refine lv_aload_n hx hb dM_init_75 rfl (lv_at hl 0 rfl) ?_
  refine lv_bipush (v := 52) hx hb dM_init_76 (by decide) ?_
  refine va_newI (N' := 52) hx hb (hts _ (wd_in (gw_mem 60 rfl rfl))) hK hP hD hSS hA (fun cA => rfl) (by decide) (by decide) (by decide) (Nat.le_of_ble_eq_true rfl) (Nat.le_of_ble_eq_true rfl) dM_init_78 (fun q10 H hP hD hSS => ?_)
  have hP : va_P D cl_X [(h0, .inr (1, [.int 0, .ref q1, .int 0, .ref q2, .ref q3, .ref q4, .int 0, .ref q5, .ref q6, .int 0, .ref q7, .int 0, .int 0, .int 0, .ref q8, .ref q9, .null, .int 0, .int 0, .int 0])), (q1, .inl (cI, 7462, .inl fun _ => 0)), (q2, .inl (cI, 5, .inl fun _ => 0)), (q3, .inl (cI, 13, .inl fun _ => 0)), (q4, .inl (cI, 7, .inl fun _ => 0)), (q5, .inl (cI, 12, .inl fun _ => 0)), (q6, .inl (cI, 5, .inl fun _ => 0)), (q7, .inl (cI, 52, .inl fun _ => 0)), (q8, .inl (cI, 6, .inl fun _ => 0)), (q9, .inl (cI, 6, .inl fun _ => 0)), (q10, .inl (cI, 52, .inl fun _ => 0))] H := hP
  have hD : va_D (in_A h0 s.heap.size) [(h0, .inr (1, [.int 0, .ref q1, .int 0, .ref q2, .ref q3, .ref q4, .int 0, .ref q5, .ref q6, .int 0, .ref q7, .int 0, .int 0, .int 0, .ref q8, .ref q9, .null, .int 0, .int 0, .int 0])), (q1, .inl (cI, 7462, .inl fun _ => 0)), (q2, .inl (cI, 5, .inl fun _ => 0)), (q3, .inl (cI, 13, .inl fun _ => 0)), (q4, .inl (cI, 7, .inl fun _ => 0)), (q5, .inl (cI, 12, .inl fun _ => 0)), (q6, .inl (cI, 5, .inl fun _ => 0)), (q7, .inl (cI, 52, .inl fun _ => 0)), (q8, .inl (cI, 6, .inl fun _ => 0)), (q9, .inl (cI, 6, .inl fun _ => 0)), (q10, .inl (cI, 52, .inl fun _ => 0))] := hD
  refine va_putF (D := D) (ci := 1) (v := .ref q10) (ty := .array .int) (C := "HandTablesModel") (T := T_M) (N := 20) hx hb hts (fun w hw => wd_in (u_inM w hw)) tf_M tf_M_ok n_M hown hK hP hD hSS 0 rfl rfl 16 (by decide) (hts _ (wd_in (gw_mem 473 rfl rfl))) (fun _ h9 => h9) rfl hin rfl (by decide +kernel) rfl rfl (Nat.le_of_ble_eq_true rfl) dM_init_80 (fun H locs hP hD hSS => ?_)
  have hP : va_P D cl_X [(h0, .inr (1, [.int 0, .ref q1, .int 0, .ref q2, .ref q3, .ref q4, .int 0, .ref q5, .ref q6, .int 0, .ref q7, .int 0, .int 0, .int 0, .ref q8, .ref q9, .ref q10, .int 0, .int 0, .int 0])), (q1, .inl (cI, 7462, .inl fun _ => 0)), (q2, .inl (cI, 5, .inl fun _ => 0)), (q3, .inl (cI, 13, .inl fun _ => 0)), (q4, .inl (cI, 7, .inl fun _ => 0)), (q5, .inl (cI, 12, .inl fun _ => 0)), (q6, .inl (cI, 5, .inl fun _ => 0)), (q7, .inl (cI, 52, .inl fun _ => 0)), (q8, .inl (cI, 6, .inl fun _ => 0)), (q9, .inl (cI, 6, .inl fun _ => 0)), (q10, .inl (cI, 52, .inl fun _ => 0))] H := hP
  have hD : va_D (in_A h0 s.heap.size) [(h0, .inr (1, [.int 0, .ref q1, .int 0, .ref q2, .ref q3, .ref q4, .int 0, .ref q5, .ref q6, .int 0, .ref q7, .int 0, .int 0, .int 0, .ref q8, .ref q9, .ref q10, .int 0, .int 0, .int 0])), (q1, .inl (cI, 7462, .inl fun _ => 0)), (q2, .inl (cI, 5, .inl fun _ => 0)), (q3, .inl (cI, 13, .inl fun _ => 0)), (q4, .inl (cI, 7, .inl fun _ => 0)), (q5, .inl (cI, 12, .inl fun _ => 0)), (q6, .inl (cI, 5, .inl fun _ => 0)), (q7, .inl (cI, 52, .inl fun _ => 0)), (q8, .inl (cI, 6, .inl fun _ => 0)), (q9, .inl (cI, 6, .inl fun _ => 0)), (q10, .inl (cI, 52, .inl fun _ => 0))] := hD
  have hP : va_P D cl_X (mo_V (D, cI, in_ad h0 q1 q2 q3 q4 q5 q6 q7 q8 q9 q10) 0 (fun _ => 0) 0 (fun _ => 0) (fun _ => 0) (fun _ => 0) 0 (fun _ => 0) (fun _ => 0) 0 (fun _ => 0) 0 0 0 (fun _ => 0) (fun _ => 0) (fun _ => 0) 0 0 0) H := hP
  have hD : va_D (in_A h0 s.heap.size) (mo_V (D, cI, in_ad h0 q1 q2 q3 q4 q5 q6 q7 q8 q9 q10) 0 (fun _ => 0) 0 (fun _ => 0) (fun _ => 0) (fun _ => 0) 0 (fun _ => 0) (fun _ => 0) 0 (fun _ => 0) 0 0 0 (fun _ => 0) (fun _ => 0) (fun _ => 0) 0 0 0) := hD
  obtain ⟨hap, hsub⟩ := mo_apD hD
  have hap0 := hap
  have hnew : ∀ i, 1 ≤ i → i < 11 → s.heap.size ≤ in_ad h0 q1 q2 q3 q4 q5 q6 q7 q8 q9 q10 i := fun i h1 h2 => (hsub _ ⟨i, h2, rfl⟩).resolve_left (fun z => absurd (hap0 i 0 h2 (by omega) z) (by omega))
  have e0 : in_ad h0 q1 q2 q3 q4 q5 q6 q7 q8 q9 q10 0 = h0 := rfl
  have hl : lv_has ls 6 [(0, .ref (in_ad h0 q1 q2 q3 q4 q5 q6 q7 q8 q9 q10 0))] := hl
  clear hap0 hD
  generalize in_ad h0 q1 q2 q3 q4 q5 q6 q7 q8 q9 q10 = ad at hP hap hsub hnew e0 hl
  obtain ⟨g, eg⟩ : ∃ g : mo_E, (D, cI, ad) = g := ⟨_, rfl⟩
  have hP : va_P g.1 cl_X (mo_V g 0 (fun _ => 0) 0 (fun _ => 0) (fun _ => 0) (fun _ => 0) 0 (fun _ => 0) (fun _ => 0) 0 (fun _ => 0) 0 0 0 (fun _ => 0) (fun _ => 0) (fun _ => 0) 0 0 0) H := by rw [← eg]; exact hP
  have hap : mo_ap g := by rw [← eg]; exact hap
  have hsub : ∀ q, mo_fr g q → in_A h0 s.heap.size q := by rw [← eg]; exact hsub
  have hnew : ∀ i, 1 ≤ i → i < 11 → s.heap.size ≤ g.2.2 i := by rw [← eg]; exact hnew
  have e0 : g.2.2 0 = h0 := by rw [← eg]; exact e0
  have hl : lv_has ls 6 [(0, .ref (g.2.2 0))] := by rw [← eg]; exact hl
  have hKD : va_K D cl_X [(g.2.1, .int)] s := by rw [← eg]; exact hK
  have hgD : g.1 = D := by rw [← eg]
  have hK : va_K g.1 cl_X [(g.2.1, .int)] s := by rw [hgD]; exact hKD
  have hgg : (D, g.2.1, g.2.2) = g := by rw [← eg]
  have hPD : ∀ {H : Heap} {S : mS}, va_P g.1 cl_X (mo_W g S) H → va_P D cl_X (mo_W (D, g.2.1, g.2.2) S) H := fun h => by rw [hgg, ← hgD]; exact h
  have hap9 := hap
  rw [← hgg] at hap9
  clear eg
  have hI : kI 0 (fun _ => 0) (kLa 13 ++ []) := ⟨0, rfl, by omega, fun i hi => absurd hi (by omega), by rw [List.append_nil]; rfl⟩
  refine lv_iconst (v := 0) hx hb dM_init_83 (by decide) ?_
  refine jt_topi (fun x21 ex21 => ?_)
  refine lv_istore_n (lv' := [(1, .int x21), (0, .ref (g.2.2 0))]) hx hb dM_init_84 rfl hl (by decide) rfl (fun ls hl => ?_)
  have hloop : ∀ (n : Nat)   (wks22 : Nat → Int32) (wkc22 : Int32) (wrn22 : Nat → Int32) (woc22 : Nat → Int32) (H : Heap) (locs : List Loc) (ls : Array Slot), lv_has ls 6 [(1, .int (nI (13 - n))), (0, .ref (g.2.2 0))] → va_P g.1 cl_X (mo_V g 0 wks22 wkc22 wrn22 woc22 (fun _ => 0) 0 (fun _ => 0) (fun _ => 0) 0 (fun _ => 0) 0 0 0 (fun _ => 0) (fun _ => 0) (fun _ => 0) 0 0 0) H → va_S (in_A h0 s.heap.size) s.heap H locs → (n ≤ 13) → (kI wkc22 wks22 (kLa n ++ [])) → (∀ (ks' : Nat → Int32) (kc' : Int32) (rn' : Nat → Int32) (oc' : Nat → Int32) (H : Heap) (locs : List Loc) (ls : Array Slot), lv_has ls 6 [(0, .ref (g.2.2 0))] → va_P g.1 cl_X (mo_V g 0 ks' kc' rn' oc' (fun _ => 0) 0 (fun _ => 0) (fun _ => 0) 0 (fun _ => 0) 0 0 0 (fun _ => 0) (fun _ => 0) (fun _ => 0) 0 0 0) H → va_S (in_A h0 s.heap.size) s.heap H locs → (kI kc' ks' ([])) → W p l e (headSpec (wd yM_init bM_init 6 none) (rmD 3 10 7620)).room s m ([.ref h0]).toArray below meth c H locs 10 7620 (MQ below (inM_Q D h0) ([.ref h0]).toArray s 10 7620 (in_A h0 s.heap.size)) (F0 m 216 ls [])) → W p l e (headSpec (wd yM_init bM_init 6 none) (rmD 3 10 7620)).room s m ([.ref h0]).toArray below meth c H locs 10 7620 (MQ below (inM_Q D h0) ([.ref h0]).toArray s 10 7620 (in_A h0 s.heap.size)) (F0 m 85 ls []) := by
    intro n
    induction n with
    | zero =>
      intro   wks22 wkc22 wrn22 woc22 H locs ls hl hP hSS hn hI K
      refine lv_iload_n hx hb dM_init_85 rfl (lv_at hl 0 rfl) ?_
      refine lv_bipush (v := 13) hx hb dM_init_86 (by decide) ?_
      refine lv_icmp_ge (tgt := 216) hx hb dM_init_88 (by decide) (fun hc23 => ?_) (fun hc23 => ?_)
      · have hlB := lv_sub hl [1] rfl
        have hPB := hP
        have hSB := hSS
        exact K _ _ _ _ _ _ _ hlB hPB hSB hI
      · exact absurd (by decide) hc23
    | succ n ih =>
      intro   wks22 wkc22 wrn22 woc22 H locs ls hl hP hSS hn hI K
      have hI : kI wkc22 wks22 (kLb (nI (13 - (n + 1))) (n + 1) ++ (kLa n ++ [])) := by rw [← List.append_assoc]; exact hI
      refine lv_iload_n hx hb dM_init_85 rfl (lv_at hl 0 rfl) ?_
      refine lv_bipush (v := 13) hx hb dM_init_86 (by decide) ?_
      refine lv_icmp_ge (tgt := 216) hx hb dM_init_88 (by decide) (fun hc24 => ?_) (fun hc24 => ?_)
      · exact absurd hc24 (nI_ge (b := 13) (by omega) (by decide))
      · refine lv_iload_n hx hb dM_init_91 rfl (lv_at hl 0 rfl) ?_
        refine jt_topi (fun x25 ex25 => ?_)
        refine lv_istore_n (lv' := [(2, .int x25), (1, .int (nI (13 - (n + 1)))), (0, .ref (g.2.2 0))]) hx hb dM_init_92 rfl hl (by decide) rfl (fun ls hl => ?_)
        have hloop : ∀ (n2 : Nat)   (wks26 : Nat → Int32) (wkc26 : Int32) (wrn26 : Nat → Int32) (woc26 : Nat → Int32) (H : Heap) (locs : List Loc) (ls : Array Slot), lv_has ls 6 [(2, .int (nI (13 - n2))), (1, .int (nI (13 - (n + 1)))), (0, .ref (g.2.2 0))] → va_P g.1 cl_X (mo_V g 0 wks26 wkc26 wrn26 woc26 (fun _ => 0) 0 (fun _ => 0) (fun _ => 0) 0 (fun _ => 0) 0 0 0 (fun _ => 0) (fun _ => 0) (fun _ => 0) 0 0 0) H → va_S (in_A h0 s.heap.size) s.heap H locs → (n2 ≤ 13) → (kI wkc26 wks26 (kLb (nI (13 - (n + 1))) n2 ++ (kLa n ++ []))) → (∀ (ks' : Nat → Int32) (kc' : Int32) (rn' : Nat → Int32) (oc' : Nat → Int32) (H : Heap) (locs : List Loc) (ls : Array Slot), lv_has ls 6 [(1, .int (nI (13 - (n + 1)))), (0, .ref (g.2.2 0))] → va_P g.1 cl_X (mo_V g 0 ks' kc' rn' oc' (fun _ => 0) 0 (fun _ => 0) (fun _ => 0) 0 (fun _ => 0) 0 0 0 (fun _ => 0) (fun _ => 0) (fun _ => 0) 0 0 0) H → va_S (in_A h0 s.heap.size) s.heap H locs → (kI kc' ks' ((kLa n ++ []))) → W p l e (headSpec (wd yM_init bM_init 6 none) (rmD 3 10 7620)).room s m ([.ref h0]).toArray below meth c H locs 10 7620 (MQ below (inM_Q D h0) ([.ref h0]).toArray s 10 7620 (in_A h0 s.heap.size)) (F0 m 210 ls [])) → W p l e (headSpec (wd yM_init bM_init 6 none) (rmD 3 10 7620)).room s m ([.ref h0]).toArray below meth c H locs 10 7620 (MQ below (inM_Q D h0) ([.ref h0]).toArray s 10 7620 (in_A h0 s.heap.size)) (F0 m 93 ls []) := by
          intro n2
          induction n2 with
          | zero =>
            intro   wks26 wkc26 wrn26 woc26 H locs ls hl hP hSS hn2 hI K
            refine lv_iload_n hx hb dM_init_93 rfl (lv_at hl 0 rfl) ?_
            refine lv_bipush (v := 13) hx hb dM_init_94 (by decide) ?_
            refine lv_icmp_ge (tgt := 210) hx hb dM_init_96 (by decide) (fun hc27 => ?_) (fun hc27 => ?_)
            · have hlB := lv_sub hl [1, 2] rfl
              have hPB := hP
              have hSB := hSS
              exact K _ _ _ _ _ _ _ hlB hPB hSB hI
            · exact absurd (by decide) hc27
          | succ n2 ih =>
            intro   wks26 wkc26 wrn26 woc26 H locs ls hl hP hSS hn2 hI K
            have hI : kI wkc26 wks26 (kLc (nI (13 - (n + 1))) (nI (13 - (n2 + 1))) (n2 + 1) ++ (kLb (nI (13 - (n + 1))) n2 ++ (kLa n ++ []))) := by rw [← List.append_assoc]; exact hI
            refine lv_iload_n hx hb dM_init_93 rfl (lv_at hl 0 rfl) ?_
            refine lv_bipush (v := 13) hx hb dM_init_94 (by decide) ?_
            refine lv_icmp_ge (tgt := 210) hx hb dM_init_96 (by decide) (fun hc28 => ?_) (fun hc28 => ?_)
            · exact absurd hc28 (nI_ge (b := 13) (by omega) (by decide))
            · refine lv_iload_n hx hb dM_init_99 rfl (lv_at hl 0 rfl) ?_
              refine jt_topi (fun x29 ex29 => ?_)
              refine lv_istore_n (lv' := [(3, .int x29), (2, .int (nI (13 - (n2 + 1)))), (1, .int (nI (13 - (n + 1)))), (0, .ref (g.2.2 0))]) hx hb dM_init_100 rfl hl (by decide) rfl (fun ls hl => ?_)
              have hloop : ∀ (n3 : Nat)   (wks30 : Nat → Int32) (wkc30 : Int32) (wrn30 : Nat → Int32) (woc30 : Nat → Int32) (H : Heap) (locs : List Loc) (ls : Array Slot), lv_has ls 6 [(3, .int (nI (13 - n3))), (2, .int (nI (13 - (n2 + 1)))), (1, .int (nI (13 - (n + 1)))), (0, .ref (g.2.2 0))] → va_P g.1 cl_X (mo_V g 0 wks30 wkc30 wrn30 woc30 (fun _ => 0) 0 (fun _ => 0) (fun _ => 0) 0 (fun _ => 0) 0 0 0 (fun _ => 0) (fun _ => 0) (fun _ => 0) 0 0 0) H → va_S (in_A h0 s.heap.size) s.heap H locs → (n3 ≤ 13) → (kI wkc30 wks30 (kLc (nI (13 - (n + 1))) (nI (13 - (n2 + 1))) n3 ++ (kLb (nI (13 - (n + 1))) n2 ++ (kLa n ++ [])))) → (∀ (ks' : Nat → Int32) (kc' : Int32) (rn' : Nat → Int32) (oc' : Nat → Int32) (H : Heap) (locs : List Loc) (ls : Array Slot), lv_has ls 6 [(2, .int (nI (13 - (n2 + 1)))), (1, .int (nI (13 - (n + 1)))), (0, .ref (g.2.2 0))] → va_P g.1 cl_X (mo_V g 0 ks' kc' rn' oc' (fun _ => 0) 0 (fun _ => 0) (fun _ => 0) 0 (fun _ => 0) 0 0 0 (fun _ => 0) (fun _ => 0) (fun _ => 0) 0 0 0) H → va_S (in_A h0 s.heap.size) s.heap H locs → (kI kc' ks' ((kLb (nI (13 - (n + 1))) n2 ++ (kLa n ++ [])))) → W p l e (headSpec (wd yM_init bM_init 6 none) (rmD 3 10 7620)).room s m ([.ref h0]).toArray below meth c H locs 10 7620 (MQ below (inM_Q D h0) ([.ref h0]).toArray s 10 7620 (in_A h0 s.heap.size)) (F0 m 204 ls [])) → W p l e (headSpec (wd yM_init bM_init 6 none) (rmD 3 10 7620)).room s m ([.ref h0]).toArray below meth c H locs 10 7620 (MQ below (inM_Q D h0) ([.ref h0]).toArray s 10 7620 (in_A h0 s.heap.size)) (F0 m 101 ls []) := by
                intro n3
                induction n3 with
                | zero =>
                  intro   wks30 wkc30 wrn30 woc30 H locs ls hl hP hSS hn3 hI K
                  refine lv_iload_n hx hb dM_init_101 rfl (lv_at hl 0 rfl) ?_
                  refine lv_bipush (v := 13) hx hb dM_init_102 (by decide) ?_
                  refine lv_icmp_ge (tgt := 204) hx hb dM_init_104 (by decide) (fun hc31 => ?_) (fun hc31 => ?_)
                  · have hlB := lv_sub hl [1, 2, 3] rfl
                    have hPB := hP
                    have hSB := hSS
                    exact K _ _ _ _ _ _ _ hlB hPB hSB hI
                  · exact absurd (by decide) hc31
                | succ n3 ih =>
                  intro   wks30 wkc30 wrn30 woc30 H locs ls hl hP hSS hn3 hI K
                  have hI : kI wkc30 wks30 (kLd (nI (13 - (n + 1))) (nI (13 - (n2 + 1))) (nI (13 - (n3 + 1))) (n3 + 1) ++ (kLc (nI (13 - (n + 1))) (nI (13 - (n2 + 1))) n3 ++ (kLb (nI (13 - (n + 1))) n2 ++ (kLa n ++ [])))) := by rw [← List.append_assoc]; exact hI
                  refine lv_iload_n hx hb dM_init_101 rfl (lv_at hl 0 rfl) ?_
                  refine lv_bipush (v := 13) hx hb dM_init_102 (by decide) ?_
                  refine lv_icmp_ge (tgt := 204) hx hb dM_init_104 (by decide) (fun hc32 => ?_) (fun hc32 => ?_)
                  · exact absurd hc32 (nI_ge (b := 13) (by omega) (by decide))
                  · refine lv_iload_n hx hb dM_init_107 rfl (lv_at hl 0 rfl) ?_
                    refine jt_topi (fun x33 ex33 => ?_)
                    refine lv_istore (lv' := [(4, .int x33), (3, .int (nI (13 - (n3 + 1)))), (2, .int (nI (13 - (n2 + 1)))), (1, .int (nI (13 - (n + 1)))), (0, .ref (g.2.2 0))]) hx hb dM_init_108 hl (by decide) rfl (fun ls hl => ?_)
                    have hloop : ∀ (n4 : Nat)   (wks34 : Nat → Int32) (wkc34 : Int32) (wrn34 : Nat → Int32) (woc34 : Nat → Int32) (H : Heap) (locs : List Loc) (ls : Array Slot), lv_has ls 6 [(4, .int (nI (13 - n4))), (3, .int (nI (13 - (n3 + 1)))), (2, .int (nI (13 - (n2 + 1)))), (1, .int (nI (13 - (n + 1)))), (0, .ref (g.2.2 0))] → va_P g.1 cl_X (mo_V g 0 wks34 wkc34 wrn34 woc34 (fun _ => 0) 0 (fun _ => 0) (fun _ => 0) 0 (fun _ => 0) 0 0 0 (fun _ => 0) (fun _ => 0) (fun _ => 0) 0 0 0) H → va_S (in_A h0 s.heap.size) s.heap H locs → (n4 ≤ 13) → (kI wkc34 wks34 (kLd (nI (13 - (n + 1))) (nI (13 - (n2 + 1))) (nI (13 - (n3 + 1))) n4 ++ (kLc (nI (13 - (n + 1))) (nI (13 - (n2 + 1))) n3 ++ (kLb (nI (13 - (n + 1))) n2 ++ (kLa n ++ []))))) → (∀ (ks' : Nat → Int32) (kc' : Int32) (rn' : Nat → Int32) (oc' : Nat → Int32) (H : Heap) (locs : List Loc) (ls : Array Slot), lv_has ls 6 [(3, .int (nI (13 - (n3 + 1)))), (2, .int (nI (13 - (n2 + 1)))), (1, .int (nI (13 - (n + 1)))), (0, .ref (g.2.2 0))] → va_P g.1 cl_X (mo_V g 0 ks' kc' rn' oc' (fun _ => 0) 0 (fun _ => 0) (fun _ => 0) 0 (fun _ => 0) 0 0 0 (fun _ => 0) (fun _ => 0) (fun _ => 0) 0 0 0) H → va_S (in_A h0 s.heap.size) s.heap H locs → (kI kc' ks' ((kLc (nI (13 - (n + 1))) (nI (13 - (n2 + 1))) n3 ++ (kLb (nI (13 - (n + 1))) n2 ++ (kLa n ++ []))))) → W p l e (headSpec (wd yM_init bM_init 6 none) (rmD 3 10 7620)).room s m ([.ref h0]).toArray below meth c H locs 10 7620 (MQ below (inM_Q D h0) ([.ref h0]).toArray s 10 7620 (in_A h0 s.heap.size)) (F0 m 198 ls [])) → W p l e (headSpec (wd yM_init bM_init 6 none) (rmD 3 10 7620)).room s m ([.ref h0]).toArray below meth c H locs 10 7620 (MQ below (inM_Q D h0) ([.ref h0]).toArray s 10 7620 (in_A h0 s.heap.size)) (F0 m 110 ls []) := by
                      intro n4
                      induction n4 with
                      | zero =>
                        intro   wks34 wkc34 wrn34 woc34 H locs ls hl hP hSS hn4 hI K
                        refine lv_iload hx hb dM_init_110 (lv_at hl 0 rfl) ?_
                        refine lv_bipush (v := 13) hx hb dM_init_112 (by decide) ?_
                        refine lv_icmp_ge (tgt := 198) hx hb dM_init_114 (by decide) (fun hc35 => ?_) (fun hc35 => ?_)
                        · have hlB := lv_sub hl [1, 2, 3, 4] rfl
                          have hPB := hP
                          have hSB := hSS
                          exact K _ _ _ _ _ _ _ hlB hPB hSB hI
                        · exact absurd (by decide) hc35
                      | succ n4 ih =>
                        intro   wks34 wkc34 wrn34 woc34 H locs ls hl hP hSS hn4 hI K
                        have hI : kI wkc34 wks34 (kLe (nI (13 - (n + 1))) (nI (13 - (n2 + 1))) (nI (13 - (n3 + 1))) (nI (13 - (n4 + 1))) (n4 + 1) ++ (kLd (nI (13 - (n + 1))) (nI (13 - (n2 + 1))) (nI (13 - (n3 + 1))) n4 ++ (kLc (nI (13 - (n + 1))) (nI (13 - (n2 + 1))) n3 ++ (kLb (nI (13 - (n + 1))) n2 ++ (kLa n ++ []))))) := by rw [← List.append_assoc]; exact hI
                        refine lv_iload hx hb dM_init_110 (lv_at hl 0 rfl) ?_
                        refine lv_bipush (v := 13) hx hb dM_init_112 (by decide) ?_
                        refine lv_icmp_ge (tgt := 198) hx hb dM_init_114 (by decide) (fun hc36 => ?_) (fun hc36 => ?_)
                        · exact absurd hc36 (nI_ge (b := 13) (by omega) (by decide))
                        · refine lv_iload hx hb dM_init_117 (lv_at hl 0 rfl) ?_
                          refine jt_topi (fun x37 ex37 => ?_)
                          refine lv_istore (lv' := [(5, .int x37), (4, .int (nI (13 - (n4 + 1)))), (3, .int (nI (13 - (n3 + 1)))), (2, .int (nI (13 - (n2 + 1)))), (1, .int (nI (13 - (n + 1)))), (0, .ref (g.2.2 0))]) hx hb dM_init_119 hl (by decide) rfl (fun ls hl => ?_)
                          have hloop : ∀ (n5 : Nat)   (wks38 : Nat → Int32) (wkc38 : Int32) (wrn38 : Nat → Int32) (woc38 : Nat → Int32) (H : Heap) (locs : List Loc) (ls : Array Slot), lv_has ls 6 [(5, .int (nI (13 - n5))), (4, .int (nI (13 - (n4 + 1)))), (3, .int (nI (13 - (n3 + 1)))), (2, .int (nI (13 - (n2 + 1)))), (1, .int (nI (13 - (n + 1)))), (0, .ref (g.2.2 0))] → va_P g.1 cl_X (mo_V g 0 wks38 wkc38 wrn38 woc38 (fun _ => 0) 0 (fun _ => 0) (fun _ => 0) 0 (fun _ => 0) 0 0 0 (fun _ => 0) (fun _ => 0) (fun _ => 0) 0 0 0) H → va_S (in_A h0 s.heap.size) s.heap H locs → (n5 ≤ 13) → (kI wkc38 wks38 (kLe (nI (13 - (n + 1))) (nI (13 - (n2 + 1))) (nI (13 - (n3 + 1))) (nI (13 - (n4 + 1))) n5 ++ (kLd (nI (13 - (n + 1))) (nI (13 - (n2 + 1))) (nI (13 - (n3 + 1))) n4 ++ (kLc (nI (13 - (n + 1))) (nI (13 - (n2 + 1))) n3 ++ (kLb (nI (13 - (n + 1))) n2 ++ (kLa n ++ [])))))) → (∀ (ks' : Nat → Int32) (kc' : Int32) (rn' : Nat → Int32) (oc' : Nat → Int32) (H : Heap) (locs : List Loc) (ls : Array Slot), lv_has ls 6 [(4, .int (nI (13 - (n4 + 1)))), (3, .int (nI (13 - (n3 + 1)))), (2, .int (nI (13 - (n2 + 1)))), (1, .int (nI (13 - (n + 1)))), (0, .ref (g.2.2 0))] → va_P g.1 cl_X (mo_V g 0 ks' kc' rn' oc' (fun _ => 0) 0 (fun _ => 0) (fun _ => 0) 0 (fun _ => 0) 0 0 0 (fun _ => 0) (fun _ => 0) (fun _ => 0) 0 0 0) H → va_S (in_A h0 s.heap.size) s.heap H locs → (kI kc' ks' ((kLd (nI (13 - (n + 1))) (nI (13 - (n2 + 1))) (nI (13 - (n3 + 1))) n4 ++ (kLc (nI (13 - (n + 1))) (nI (13 - (n2 + 1))) n3 ++ (kLb (nI (13 - (n + 1))) n2 ++ (kLa n ++ [])))))) → W p l e (headSpec (wd yM_init bM_init 6 none) (rmD 3 10 7620)).room s m ([.ref h0]).toArray below meth c H locs 10 7620 (MQ below (inM_Q D h0) ([.ref h0]).toArray s 10 7620 (in_A h0 s.heap.size)) (F0 m 192 ls [])) → W p l e (headSpec (wd yM_init bM_init 6 none) (rmD 3 10 7620)).room s m ([.ref h0]).toArray below meth c H locs 10 7620 (MQ below (inM_Q D h0) ([.ref h0]).toArray s 10 7620 (in_A h0 s.heap.size)) (F0 m 121 ls []) := by
                            intro n5
                            induction n5 with
                            | zero =>
                              intro   wks38 wkc38 wrn38 woc38 H locs ls hl hP hSS hn5 hI K
                              refine lv_iload hx hb dM_init_121 (lv_at hl 0 rfl) ?_
                              refine lv_bipush (v := 13) hx hb dM_init_123 (by decide) ?_
                              refine lv_icmp_ge (tgt := 192) hx hb dM_init_125 (by decide) (fun hc39 => ?_) (fun hc39 => ?_)
                              · have hlB := lv_sub hl [1, 2, 3, 4, 5] rfl
                                have hPB := hP
                                have hSB := hSS
                                exact K _ _ _ _ _ _ _ hlB hPB hSB hI
                              · exact absurd (by decide) hc39
                            | succ n5 ih =>
                              intro   wks38 wkc38 wrn38 woc38 H locs ls hl hP hSS hn5 hI K
                              have hI : kI wkc38 wks38 (kE1 (nI (13 - (n + 1))) (nI (13 - (n2 + 1))) (nI (13 - (n3 + 1))) (nI (13 - (n4 + 1))) (nI (13 - (n5 + 1))) ++ (kLe (nI (13 - (n + 1))) (nI (13 - (n2 + 1))) (nI (13 - (n3 + 1))) (nI (13 - (n4 + 1))) n5 ++ (kLd (nI (13 - (n + 1))) (nI (13 - (n2 + 1))) (nI (13 - (n3 + 1))) n4 ++ (kLc (nI (13 - (n + 1))) (nI (13 - (n2 + 1))) n3 ++ (kLb (nI (13 - (n + 1))) n2 ++ (kLa n ++ [])))))) := by rw [← List.append_assoc]; exact hI
                              refine lv_iload hx hb dM_init_121 (lv_at hl 0 rfl) ?_
                              refine lv_bipush (v := 13) hx hb dM_init_123 (by decide) ?_
                              refine lv_icmp_ge (tgt := 192) hx hb dM_init_125 (by decide) (fun hc40 => ?_) (fun hc40 => ?_)
                              · exact absurd hc40 (nI_ge (b := 13) (by omega) (by decide))
                              · refine lv_aload_n hx hb dM_init_128 rfl (lv_at hl 5 rfl) ?_
                                refine lv_iload_n hx hb dM_init_129 rfl (lv_at hl 4 rfl) ?_
                                refine lv_iload_n hx hb dM_init_130 rfl (lv_at hl 3 rfl) ?_
                                refine lv_iload_n hx hb dM_init_131 rfl (lv_at hl 2 rfl) ?_
                                refine lv_iload hx hb dM_init_132 (lv_at hl 1 rfl) ?_
                                refine lv_iload hx hb dM_init_134 (lv_at hl 0 rfl) ?_
                                refine mm_VA (cM_setRanks l g 0 wks38 wkc38 wrn38 woc38 (fun _ => 0) 0 (fun _ => 0) (fun _ => 0) 0 (fun _ => 0) 0 0 0 (fun _ => 0) (fun _ => 0) (fun _ => 0) 0 0 0 (nI (13 - (n + 1))) (nI (13 - (n2 + 1))) (nI (13 - (n3 + 1))) (nI (13 - (n4 + 1))) (nI (13 - (n5 + 1))) hap) rfl kM_M_setRanks hS hK hP ⟨Nat.le_of_ble_eq_true rfl, Nat.le_of_ble_eq_true rfl⟩ hl.1 rfl (Nat.le_of_ble_eq_true rfl) ⟨Nat.le_of_ble_eq_true rfl, Nat.le_of_ble_eq_true rfl⟩ dM_init_136 hSS hsub (fun v9 S9 H locs hR hP hSS _ _ => ?_)
                                obtain ⟨rfl, rfl⟩ := hR
                                have hP : va_P g.1 cl_X (mo_V g 0 wks38 wkc38 (k_r5f wrn38 (nI (13 - (n + 1))) (nI (13 - (n2 + 1))) (nI (13 - (n3 + 1))) (nI (13 - (n4 + 1))) (nI (13 - (n5 + 1)))) woc38 (fun _ => 0) 0 (fun _ => 0) (fun _ => 0) 0 (fun _ => 0) 0 0 0 (fun _ => 0) (fun _ => 0) (fun _ => 0) 0 0 0) H := hP
                                refine lv_iload_n hx hb dM_init_139 rfl (lv_at hl 4 rfl) ?_
                                refine lv_iload hx hb dM_init_140 (lv_at hl 0 rfl) ?_
                                refine lv_icmp_ge (tgt := 154) hx hb dM_init_142 (by decide) (fun hc41 => ?_) (fun hc41 => ?_)
                                · refine lv_iload_n hx hb dM_init_154 rfl (lv_at hl 4 rfl) ?_
                                  refine lv_iload_n hx hb dM_init_155 rfl (lv_at hl 3 rfl) ?_
                                  refine lv_icmp_ge (tgt := 186) hx hb dM_init_156 (by decide) (fun hc42 => ?_) (fun hc42 => ?_)
                                  · refine jv_iinc (a := 1) hx hb dM_init_186 hl (k := 0) rfl (by decide) (by decide) (fun x43 ex43 ls hl => ?_)
                                    have hl : lv_has ls 6 [(5, .int x43), (4, .int (nI (13 - (n4 + 1)))), (3, .int (nI (13 - (n3 + 1)))), (2, .int (nI (13 - (n2 + 1)))), (1, .int (nI (13 - (n + 1)))), (0, .ref (g.2.2 0))] := hl
                                    refine lv_goto (tgt := 121) hx hb dM_init_189 (by decide) ?_
                                    rw [nI_up (by omega)] at ex43
                                    have hlB := lv_sub hl [0, 1, 2, 3, 4, 5] rfl
                                    have hPB := hP
                                    have hSB := hSS
                                    subst ex43
                                    exact ih   _ _ _ _ _ _ _ hlB hPB hSB (by omega) (by have h8 := hI; (try simp only [kE1, if_pos hc41, if_pos hc42, List.nil_append, List.cons_append, List.append_assoc] at h8); exact h8) K
                                  · refine lv_iload_n hx hb dM_init_159 rfl (lv_at hl 3 rfl) ?_
                                    refine lv_iload_n hx hb dM_init_160 rfl (lv_at hl 2 rfl) ?_
                                    refine lv_icmp_ge (tgt := 186) hx hb dM_init_161 (by decide) (fun hc44 => ?_) (fun hc44 => ?_)
                                    · refine jv_iinc (a := 1) hx hb dM_init_186 hl (k := 0) rfl (by decide) (by decide) (fun x45 ex45 ls hl => ?_)
                                      have hl : lv_has ls 6 [(5, .int x45), (4, .int (nI (13 - (n4 + 1)))), (3, .int (nI (13 - (n3 + 1)))), (2, .int (nI (13 - (n2 + 1)))), (1, .int (nI (13 - (n + 1)))), (0, .ref (g.2.2 0))] := hl
                                      refine lv_goto (tgt := 121) hx hb dM_init_189 (by decide) ?_
                                      rw [nI_up (by omega)] at ex45
                                      have hlB := lv_sub hl [0, 1, 2, 3, 4, 5] rfl
                                      have hPB := hP
                                      have hSB := hSS
                                      subst ex45
                                      exact ih   _ _ _ _ _ _ _ hlB hPB hSB (by omega) (by have h8 := hI; (try simp only [kE1, if_pos hc41, if_neg hc42, if_pos hc44, List.nil_append, List.cons_append, List.append_assoc] at h8); exact h8) K
                                    · refine lv_iload_n hx hb dM_init_164 rfl (lv_at hl 2 rfl) ?_
                                      refine lv_iload hx hb dM_init_165 (lv_at hl 1 rfl) ?_
                                      refine lv_icmp_ge (tgt := 186) hx hb dM_init_167 (by decide) (fun hc46 => ?_) (fun hc46 => ?_)
                                      · refine jv_iinc (a := 1) hx hb dM_init_186 hl (k := 0) rfl (by decide) (by decide) (fun x47 ex47 ls hl => ?_)
                                        have hl : lv_has ls 6 [(5, .int x47), (4, .int (nI (13 - (n4 + 1)))), (3, .int (nI (13 - (n3 + 1)))), (2, .int (nI (13 - (n2 + 1)))), (1, .int (nI (13 - (n + 1)))), (0, .ref (g.2.2 0))] := hl
                                        refine lv_goto (tgt := 121) hx hb dM_init_189 (by decide) ?_
                                        rw [nI_up (by omega)] at ex47
                                        have hlB := lv_sub hl [0, 1, 2, 3, 4, 5] rfl
                                        have hPB := hP
                                        have hSB := hSS
                                        subst ex47
                                        exact ih   _ _ _ _ _ _ _ hlB hPB hSB (by omega) (by have h8 := hI; (try simp only [kE1, if_pos hc41, if_neg hc42, if_neg hc44, if_pos hc46, List.nil_append, List.cons_append, List.append_assoc] at h8); exact h8) K
                                      · refine lv_iload hx hb dM_init_170 (lv_at hl 1 rfl) ?_
                                        refine lv_iload hx hb dM_init_172 (lv_at hl 0 rfl) ?_
                                        refine lv_icmp_ge (tgt := 186) hx hb dM_init_174 (by decide) (fun hc48 => ?_) (fun hc48 => ?_)
                                        · refine jv_iinc (a := 1) hx hb dM_init_186 hl (k := 0) rfl (by decide) (by decide) (fun x49 ex49 ls hl => ?_)
                                          have hl : lv_has ls 6 [(5, .int x49), (4, .int (nI (13 - (n4 + 1)))), (3, .int (nI (13 - (n3 + 1)))), (2, .int (nI (13 - (n2 + 1)))), (1, .int (nI (13 - (n + 1)))), (0, .ref (g.2.2 0))] := hl
                                          refine lv_goto (tgt := 121) hx hb dM_init_189 (by decide) ?_
                                          rw [nI_up (by omega)] at ex49
                                          have hlB := lv_sub hl [0, 1, 2, 3, 4, 5] rfl
                                          have hPB := hP
                                          have hSB := hSS
                                          subst ex49
                                          exact ih   _ _ _ _ _ _ _ hlB hPB hSB (by omega) (by have h8 := hI; (try simp only [kE1, if_pos hc41, if_neg hc42, if_neg hc44, if_neg hc46, if_pos hc48, List.nil_append, List.cons_append, List.append_assoc] at h8); exact h8) K
                                        · refine lv_aload_n hx hb dM_init_177 rfl (lv_at hl 5 rfl) ?_
                                          refine lv_aload_n hx hb dM_init_178 rfl (lv_at hl 5 rfl) ?_
                                          refine lv_iconst (v := 1) hx hb dM_init_179 (by decide) ?_
                                          refine mm_VA (cM_keyOf l g 0 wks38 wkc38 (k_r5f wrn38 (nI (13 - (n + 1))) (nI (13 - (n2 + 1))) (nI (13 - (n3 + 1))) (nI (13 - (n4 + 1))) (nI (13 - (n5 + 1)))) woc38 (fun _ => 0) 0 (fun _ => 0) (fun _ => 0) 0 (fun _ => 0) 0 0 0 (fun _ => 0) (fun _ => 0) (fun _ => 0) 0 0 0 1 hap (k_r5_in (vp_in_nI (by omega) (by decide)) (vp_in_nI (by omega) (by decide)) (vp_in_nI (by omega) (by decide)) (vp_in_nI (by omega) (by decide)) (vp_in_nI (by omega) (by decide)))) rfl kM_M_keyOf hS hK hP ⟨Nat.le_of_ble_eq_true rfl, Nat.le_of_ble_eq_true rfl⟩ hl.1 rfl (Nat.le_of_ble_eq_true rfl) ⟨Nat.le_of_ble_eq_true rfl, Nat.le_of_ble_eq_true rfl⟩ dM_init_180 hSS hsub (fun v9 S9 H locs hR hP hSS _ _ => ?_)
                                          obtain ⟨rfl, oc50, rfl⟩ := hR
                                          have hP : va_P g.1 cl_X (mo_V g 0 wks38 wkc38 (k_r5f wrn38 (nI (13 - (n + 1))) (nI (13 - (n2 + 1))) (nI (13 - (n3 + 1))) (nI (13 - (n4 + 1))) (nI (13 - (n5 + 1)))) oc50 (fun _ => 0) 0 (fun _ => 0) (fun _ => 0) 0 (fun _ => 0) 0 0 0 (fun _ => 0) (fun _ => 0) (fun _ => 0) 0 0 0) H := hP
                                          refine mm_VA (cM_addKey l g 0 wks38 wkc38 (k_r5f wrn38 (nI (13 - (n + 1))) (nI (13 - (n2 + 1))) (nI (13 - (n3 + 1))) (nI (13 - (n4 + 1))) (nI (13 - (n5 + 1)))) oc50 (fun _ => 0) 0 (fun _ => 0) (fun _ => 0) 0 (fun _ => 0) 0 0 0 (fun _ => 0) (fun _ => 0) (fun _ => 0) 0 0 0 (k_key (k_oc (k_r5f wrn38 (nI (13 - (n + 1))) (nI (13 - (n2 + 1))) (nI (13 - (n3 + 1))) (nI (13 - (n4 + 1))) (nI (13 - (n5 + 1))))) 1) hap (kI_in (by have h8 := hI; simp only [kE1, if_pos hc41, if_neg hc42, if_neg hc44, if_neg hc46, if_neg hc48, List.nil_append, List.cons_append, List.append_assoc] at h8; exact h8))) rfl kM_M_addKey hS hK hP ⟨Nat.le_of_ble_eq_true rfl, Nat.le_of_ble_eq_true rfl⟩ hl.1 rfl (Nat.le_of_ble_eq_true rfl) ⟨Nat.le_of_ble_eq_true rfl, Nat.le_of_ble_eq_true rfl⟩ dM_init_183 hSS hsub (fun v9 S9 H locs hR hP hSS _ _ => ?_)
                                          obtain ⟨rfl, rfl⟩ := hR
                                          have h8 := hI
                                          simp only [kE1, if_pos hc41, if_neg hc42, if_neg hc44, if_neg hc46, if_neg hc48, List.nil_append, List.cons_append, List.append_assoc] at h8
                                          have hI := kI_add (y := (k_key (k_oc (k_r5f wrn38 (nI (13 - (n + 1))) (nI (13 - (n2 + 1))) (nI (13 - (n3 + 1))) (nI (13 - (n4 + 1))) (nI (13 - (n5 + 1))))) 1)) h8 (k_r5_key _ _ _ _ _ _ 1)
                                          have hP : va_P g.1 cl_X (mo_V g 0 (upd wks38 (wkc38 : Int32).toNatClampNeg (k_key (k_oc (k_r5f wrn38 (nI (13 - (n + 1))) (nI (13 - (n2 + 1))) (nI (13 - (n3 + 1))) (nI (13 - (n4 + 1))) (nI (13 - (n5 + 1))))) 1)) (wkc38 + 1) (k_r5f wrn38 (nI (13 - (n + 1))) (nI (13 - (n2 + 1))) (nI (13 - (n3 + 1))) (nI (13 - (n4 + 1))) (nI (13 - (n5 + 1)))) oc50 (fun _ => 0) 0 (fun _ => 0) (fun _ => 0) 0 (fun _ => 0) 0 0 0 (fun _ => 0) (fun _ => 0) (fun _ => 0) 0 0 0) H := hP
                                          refine jv_iinc (a := 1) hx hb dM_init_186 hl (k := 0) rfl (by decide) (by decide) (fun x51 ex51 ls hl => ?_)
                                          have hl : lv_has ls 6 [(5, .int x51), (4, .int (nI (13 - (n4 + 1)))), (3, .int (nI (13 - (n3 + 1)))), (2, .int (nI (13 - (n2 + 1)))), (1, .int (nI (13 - (n + 1)))), (0, .ref (g.2.2 0))] := hl
                                          refine lv_goto (tgt := 121) hx hb dM_init_189 (by decide) ?_
                                          rw [nI_up (by omega)] at ex51
                                          have hlB := lv_sub hl [0, 1, 2, 3, 4, 5] rfl
                                          have hPB := hP
                                          have hSB := hSS
                                          subst ex51
                                          exact ih   _ _ _ _ _ _ _ hlB hPB hSB (by omega) (by have h8 := hI; (try simp only [kE1, if_pos hc41, if_neg hc42, if_neg hc44, if_neg hc46, if_neg hc48, List.nil_append, List.cons_append, List.append_assoc] at h8); exact h8) K
                                · refine lv_aload_n hx hb dM_init_145 rfl (lv_at hl 5 rfl) ?_
                                  refine lv_aload_n hx hb dM_init_146 rfl (lv_at hl 5 rfl) ?_
                                  refine lv_iconst (v := 0) hx hb dM_init_147 (by decide) ?_
                                  refine mm_VA (cM_keyOf l g 0 wks38 wkc38 (k_r5f wrn38 (nI (13 - (n + 1))) (nI (13 - (n2 + 1))) (nI (13 - (n3 + 1))) (nI (13 - (n4 + 1))) (nI (13 - (n5 + 1)))) woc38 (fun _ => 0) 0 (fun _ => 0) (fun _ => 0) 0 (fun _ => 0) 0 0 0 (fun _ => 0) (fun _ => 0) (fun _ => 0) 0 0 0 0 hap (k_r5_in (vp_in_nI (by omega) (by decide)) (vp_in_nI (by omega) (by decide)) (vp_in_nI (by omega) (by decide)) (vp_in_nI (by omega) (by decide)) (vp_in_nI (by omega) (by decide)))) rfl kM_M_keyOf hS hK hP ⟨Nat.le_of_ble_eq_true rfl, Nat.le_of_ble_eq_true rfl⟩ hl.1 rfl (Nat.le_of_ble_eq_true rfl) ⟨Nat.le_of_ble_eq_true rfl, Nat.le_of_ble_eq_true rfl⟩ dM_init_148 hSS hsub (fun v9 S9 H locs hR hP hSS _ _ => ?_)
                                  obtain ⟨rfl, oc52, rfl⟩ := hR
                                  have hP : va_P g.1 cl_X (mo_V g 0 wks38 wkc38 (k_r5f wrn38 (nI (13 - (n + 1))) (nI (13 - (n2 + 1))) (nI (13 - (n3 + 1))) (nI (13 - (n4 + 1))) (nI (13 - (n5 + 1)))) oc52 (fun _ => 0) 0 (fun _ => 0) (fun _ => 0) 0 (fun _ => 0) 0 0 0 (fun _ => 0) (fun _ => 0) (fun _ => 0) 0 0 0) H := hP
                                  refine mm_VA (cM_addKey l g 0 wks38 wkc38 (k_r5f wrn38 (nI (13 - (n + 1))) (nI (13 - (n2 + 1))) (nI (13 - (n3 + 1))) (nI (13 - (n4 + 1))) (nI (13 - (n5 + 1)))) oc52 (fun _ => 0) 0 (fun _ => 0) (fun _ => 0) 0 (fun _ => 0) 0 0 0 (fun _ => 0) (fun _ => 0) (fun _ => 0) 0 0 0 (k_key (k_oc (k_r5f wrn38 (nI (13 - (n + 1))) (nI (13 - (n2 + 1))) (nI (13 - (n3 + 1))) (nI (13 - (n4 + 1))) (nI (13 - (n5 + 1))))) 0) hap (kI_in (by have h8 := hI; simp only [kE1, if_neg hc41, List.nil_append, List.cons_append, List.append_assoc] at h8; exact h8))) rfl kM_M_addKey hS hK hP ⟨Nat.le_of_ble_eq_true rfl, Nat.le_of_ble_eq_true rfl⟩ hl.1 rfl (Nat.le_of_ble_eq_true rfl) ⟨Nat.le_of_ble_eq_true rfl, Nat.le_of_ble_eq_true rfl⟩ dM_init_151 hSS hsub (fun v9 S9 H locs hR hP hSS _ _ => ?_)
                                  obtain ⟨rfl, rfl⟩ := hR
                                  have h8 := hI
                                  simp only [kE1, if_neg hc41, List.nil_append, List.cons_append, List.append_assoc] at h8
                                  have hI := kI_add (y := (k_key (k_oc (k_r5f wrn38 (nI (13 - (n + 1))) (nI (13 - (n2 + 1))) (nI (13 - (n3 + 1))) (nI (13 - (n4 + 1))) (nI (13 - (n5 + 1))))) 0)) h8 (k_r5_key _ _ _ _ _ _ 0)
                                  have hP : va_P g.1 cl_X (mo_V g 0 (upd wks38 (wkc38 : Int32).toNatClampNeg (k_key (k_oc (k_r5f wrn38 (nI (13 - (n + 1))) (nI (13 - (n2 + 1))) (nI (13 - (n3 + 1))) (nI (13 - (n4 + 1))) (nI (13 - (n5 + 1))))) 0)) (wkc38 + 1) (k_r5f wrn38 (nI (13 - (n + 1))) (nI (13 - (n2 + 1))) (nI (13 - (n3 + 1))) (nI (13 - (n4 + 1))) (nI (13 - (n5 + 1)))) oc52 (fun _ => 0) 0 (fun _ => 0) (fun _ => 0) 0 (fun _ => 0) 0 0 0 (fun _ => 0) (fun _ => 0) (fun _ => 0) 0 0 0) H := hP
                                  refine lv_iload_n hx hb dM_init_154 rfl (lv_at hl 4 rfl) ?_
                                  refine lv_iload_n hx hb dM_init_155 rfl (lv_at hl 3 rfl) ?_
                                  refine lv_icmp_ge (tgt := 186) hx hb dM_init_156 (by decide) (fun hc53 => ?_) (fun hc53 => ?_)
                                  · refine jv_iinc (a := 1) hx hb dM_init_186 hl (k := 0) rfl (by decide) (by decide) (fun x54 ex54 ls hl => ?_)
                                    have hl : lv_has ls 6 [(5, .int x54), (4, .int (nI (13 - (n4 + 1)))), (3, .int (nI (13 - (n3 + 1)))), (2, .int (nI (13 - (n2 + 1)))), (1, .int (nI (13 - (n + 1)))), (0, .ref (g.2.2 0))] := hl
                                    refine lv_goto (tgt := 121) hx hb dM_init_189 (by decide) ?_
                                    rw [nI_up (by omega)] at ex54
                                    have hlB := lv_sub hl [0, 1, 2, 3, 4, 5] rfl
                                    have hPB := hP
                                    have hSB := hSS
                                    subst ex54
                                    exact ih   _ _ _ _ _ _ _ hlB hPB hSB (by omega) (by have h8 := hI; (try simp only [kE1, if_neg hc41, if_pos hc53, List.nil_append, List.cons_append, List.append_assoc] at h8); exact h8) K
                                  · refine lv_iload_n hx hb dM_init_159 rfl (lv_at hl 3 rfl) ?_
                                    refine lv_iload_n hx hb dM_init_160 rfl (lv_at hl 2 rfl) ?_
                                    refine lv_icmp_ge (tgt := 186) hx hb dM_init_161 (by decide) (fun hc55 => ?_) (fun hc55 => ?_)
                                    · refine jv_iinc (a := 1) hx hb dM_init_186 hl (k := 0) rfl (by decide) (by decide) (fun x56 ex56 ls hl => ?_)
                                      have hl : lv_has ls 6 [(5, .int x56), (4, .int (nI (13 - (n4 + 1)))), (3, .int (nI (13 - (n3 + 1)))), (2, .int (nI (13 - (n2 + 1)))), (1, .int (nI (13 - (n + 1)))), (0, .ref (g.2.2 0))] := hl
                                      refine lv_goto (tgt := 121) hx hb dM_init_189 (by decide) ?_
                                      rw [nI_up (by omega)] at ex56
                                      have hlB := lv_sub hl [0, 1, 2, 3, 4, 5] rfl
                                      have hPB := hP
                                      have hSB := hSS
                                      subst ex56
                                      exact ih   _ _ _ _ _ _ _ hlB hPB hSB (by omega) (by have h8 := hI; (try simp only [kE1, if_neg hc41, if_neg hc53, if_pos hc55, List.nil_append, List.cons_append, List.append_assoc] at h8); exact h8) K
                                    · refine lv_iload_n hx hb dM_init_164 rfl (lv_at hl 2 rfl) ?_
                                      refine lv_iload hx hb dM_init_165 (lv_at hl 1 rfl) ?_
                                      refine lv_icmp_ge (tgt := 186) hx hb dM_init_167 (by decide) (fun hc57 => ?_) (fun hc57 => ?_)
                                      · refine jv_iinc (a := 1) hx hb dM_init_186 hl (k := 0) rfl (by decide) (by decide) (fun x58 ex58 ls hl => ?_)
                                        have hl : lv_has ls 6 [(5, .int x58), (4, .int (nI (13 - (n4 + 1)))), (3, .int (nI (13 - (n3 + 1)))), (2, .int (nI (13 - (n2 + 1)))), (1, .int (nI (13 - (n + 1)))), (0, .ref (g.2.2 0))] := hl
                                        refine lv_goto (tgt := 121) hx hb dM_init_189 (by decide) ?_
                                        rw [nI_up (by omega)] at ex58
                                        have hlB := lv_sub hl [0, 1, 2, 3, 4, 5] rfl
                                        have hPB := hP
                                        have hSB := hSS
                                        subst ex58
                                        exact ih   _ _ _ _ _ _ _ hlB hPB hSB (by omega) (by have h8 := hI; (try simp only [kE1, if_neg hc41, if_neg hc53, if_neg hc55, if_pos hc57, List.nil_append, List.cons_append, List.append_assoc] at h8); exact h8) K
                                      · refine lv_iload hx hb dM_init_170 (lv_at hl 1 rfl) ?_
                                        refine lv_iload hx hb dM_init_172 (lv_at hl 0 rfl) ?_
                                        refine lv_icmp_ge (tgt := 186) hx hb dM_init_174 (by decide) (fun hc59 => ?_) (fun hc59 => ?_)
                                        · refine jv_iinc (a := 1) hx hb dM_init_186 hl (k := 0) rfl (by decide) (by decide) (fun x60 ex60 ls hl => ?_)
                                          have hl : lv_has ls 6 [(5, .int x60), (4, .int (nI (13 - (n4 + 1)))), (3, .int (nI (13 - (n3 + 1)))), (2, .int (nI (13 - (n2 + 1)))), (1, .int (nI (13 - (n + 1)))), (0, .ref (g.2.2 0))] := hl
                                          refine lv_goto (tgt := 121) hx hb dM_init_189 (by decide) ?_
                                          rw [nI_up (by omega)] at ex60
                                          have hlB := lv_sub hl [0, 1, 2, 3, 4, 5] rfl
                                          have hPB := hP
                                          have hSB := hSS
                                          subst ex60
                                          exact ih   _ _ _ _ _ _ _ hlB hPB hSB (by omega) (by have h8 := hI; (try simp only [kE1, if_neg hc41, if_neg hc53, if_neg hc55, if_neg hc57, if_pos hc59, List.nil_append, List.cons_append, List.append_assoc] at h8); exact h8) K
                                        · refine lv_aload_n hx hb dM_init_177 rfl (lv_at hl 5 rfl) ?_
                                          refine lv_aload_n hx hb dM_init_178 rfl (lv_at hl 5 rfl) ?_
                                          refine lv_iconst (v := 1) hx hb dM_init_179 (by decide) ?_
                                          refine mm_VA (cM_keyOf l g 0 (upd wks38 (wkc38 : Int32).toNatClampNeg (k_key (k_oc (k_r5f wrn38 (nI (13 - (n + 1))) (nI (13 - (n2 + 1))) (nI (13 - (n3 + 1))) (nI (13 - (n4 + 1))) (nI (13 - (n5 + 1))))) 0)) (wkc38 + 1) (k_r5f wrn38 (nI (13 - (n + 1))) (nI (13 - (n2 + 1))) (nI (13 - (n3 + 1))) (nI (13 - (n4 + 1))) (nI (13 - (n5 + 1)))) oc52 (fun _ => 0) 0 (fun _ => 0) (fun _ => 0) 0 (fun _ => 0) 0 0 0 (fun _ => 0) (fun _ => 0) (fun _ => 0) 0 0 0 1 hap (k_r5_in (vp_in_nI (by omega) (by decide)) (vp_in_nI (by omega) (by decide)) (vp_in_nI (by omega) (by decide)) (vp_in_nI (by omega) (by decide)) (vp_in_nI (by omega) (by decide)))) rfl kM_M_keyOf hS hK hP ⟨Nat.le_of_ble_eq_true rfl, Nat.le_of_ble_eq_true rfl⟩ hl.1 rfl (Nat.le_of_ble_eq_true rfl) ⟨Nat.le_of_ble_eq_true rfl, Nat.le_of_ble_eq_true rfl⟩ dM_init_180 hSS hsub (fun v9 S9 H locs hR hP hSS _ _ => ?_)
                                          obtain ⟨rfl, oc61, rfl⟩ := hR
                                          have hP : va_P g.1 cl_X (mo_V g 0 (upd wks38 (wkc38 : Int32).toNatClampNeg (k_key (k_oc (k_r5f wrn38 (nI (13 - (n + 1))) (nI (13 - (n2 + 1))) (nI (13 - (n3 + 1))) (nI (13 - (n4 + 1))) (nI (13 - (n5 + 1))))) 0)) (wkc38 + 1) (k_r5f wrn38 (nI (13 - (n + 1))) (nI (13 - (n2 + 1))) (nI (13 - (n3 + 1))) (nI (13 - (n4 + 1))) (nI (13 - (n5 + 1)))) oc61 (fun _ => 0) 0 (fun _ => 0) (fun _ => 0) 0 (fun _ => 0) 0 0 0 (fun _ => 0) (fun _ => 0) (fun _ => 0) 0 0 0) H := hP
                                          refine mm_VA (cM_addKey l g 0 (upd wks38 (wkc38 : Int32).toNatClampNeg (k_key (k_oc (k_r5f wrn38 (nI (13 - (n + 1))) (nI (13 - (n2 + 1))) (nI (13 - (n3 + 1))) (nI (13 - (n4 + 1))) (nI (13 - (n5 + 1))))) 0)) (wkc38 + 1) (k_r5f wrn38 (nI (13 - (n + 1))) (nI (13 - (n2 + 1))) (nI (13 - (n3 + 1))) (nI (13 - (n4 + 1))) (nI (13 - (n5 + 1)))) oc61 (fun _ => 0) 0 (fun _ => 0) (fun _ => 0) 0 (fun _ => 0) 0 0 0 (fun _ => 0) (fun _ => 0) (fun _ => 0) 0 0 0 (k_key (k_oc (k_r5f wrn38 (nI (13 - (n + 1))) (nI (13 - (n2 + 1))) (nI (13 - (n3 + 1))) (nI (13 - (n4 + 1))) (nI (13 - (n5 + 1))))) 1) hap (kI_in (by have h8 := hI; simp only [kE1, if_neg hc41, if_neg hc53, if_neg hc55, if_neg hc57, if_neg hc59, List.nil_append, List.cons_append, List.append_assoc] at h8; exact h8))) rfl kM_M_addKey hS hK hP ⟨Nat.le_of_ble_eq_true rfl, Nat.le_of_ble_eq_true rfl⟩ hl.1 rfl (Nat.le_of_ble_eq_true rfl) ⟨Nat.le_of_ble_eq_true rfl, Nat.le_of_ble_eq_true rfl⟩ dM_init_183 hSS hsub (fun v9 S9 H locs hR hP hSS _ _ => ?_)
                                          obtain ⟨rfl, rfl⟩ := hR
                                          have h8 := hI
                                          simp only [kE1, if_neg hc41, if_neg hc53, if_neg hc55, if_neg hc57, if_neg hc59, List.nil_append, List.cons_append, List.append_assoc] at h8
                                          have hI := kI_add (y := (k_key (k_oc (k_r5f wrn38 (nI (13 - (n + 1))) (nI (13 - (n2 + 1))) (nI (13 - (n3 + 1))) (nI (13 - (n4 + 1))) (nI (13 - (n5 + 1))))) 1)) h8 (k_r5_key _ _ _ _ _ _ 1)
                                          have hP : va_P g.1 cl_X (mo_V g 0 (upd (upd wks38 (wkc38 : Int32).toNatClampNeg (k_key (k_oc (k_r5f wrn38 (nI (13 - (n + 1))) (nI (13 - (n2 + 1))) (nI (13 - (n3 + 1))) (nI (13 - (n4 + 1))) (nI (13 - (n5 + 1))))) 0)) ((wkc38 + 1) : Int32).toNatClampNeg (k_key (k_oc (k_r5f wrn38 (nI (13 - (n + 1))) (nI (13 - (n2 + 1))) (nI (13 - (n3 + 1))) (nI (13 - (n4 + 1))) (nI (13 - (n5 + 1))))) 1)) ((wkc38 + 1) + 1) (k_r5f wrn38 (nI (13 - (n + 1))) (nI (13 - (n2 + 1))) (nI (13 - (n3 + 1))) (nI (13 - (n4 + 1))) (nI (13 - (n5 + 1)))) oc61 (fun _ => 0) 0 (fun _ => 0) (fun _ => 0) 0 (fun _ => 0) 0 0 0 (fun _ => 0) (fun _ => 0) (fun _ => 0) 0 0 0) H := hP
                                          refine jv_iinc (a := 1) hx hb dM_init_186 hl (k := 0) rfl (by decide) (by decide) (fun x62 ex62 ls hl => ?_)
                                          have hl : lv_has ls 6 [(5, .int x62), (4, .int (nI (13 - (n4 + 1)))), (3, .int (nI (13 - (n3 + 1)))), (2, .int (nI (13 - (n2 + 1)))), (1, .int (nI (13 - (n + 1)))), (0, .ref (g.2.2 0))] := hl
                                          refine lv_goto (tgt := 121) hx hb dM_init_189 (by decide) ?_
                                          rw [nI_up (by omega)] at ex62
                                          have hlB := lv_sub hl [0, 1, 2, 3, 4, 5] rfl
                                          have hPB := hP
                                          have hSB := hSS
                                          subst ex62
                                          exact ih   _ _ _ _ _ _ _ hlB hPB hSB (by omega) (by have h8 := hI; (try simp only [kE1, if_neg hc41, if_neg hc53, if_neg hc55, if_neg hc57, if_neg hc59, List.nil_append, List.cons_append, List.append_assoc] at h8); exact h8) K
                          refine hloop (n4 + 1)   wks34 wkc34 wrn34 woc34 _ _ ls (by have h9 := lv_sub hl [0, 1, 2, 3, 4, 5] rfl; subst ex37; exact h9) hP hSS (by omega) hI (fun ks63 kc64 rn65 oc66 H locs ls hl hP hSS hI => ?_)
                          clear hloop
                          refine jv_iinc (a := 1) hx hb dM_init_192 hl (k := 0) rfl (by decide) (by decide) (fun x67 ex67 ls hl => ?_)
                          have hl : lv_has ls 6 [(4, .int x67), (3, .int (nI (13 - (n3 + 1)))), (2, .int (nI (13 - (n2 + 1)))), (1, .int (nI (13 - (n + 1)))), (0, .ref (g.2.2 0))] := hl
                          refine lv_goto (tgt := 110) hx hb dM_init_195 (by decide) ?_
                          rw [nI_up (by omega)] at ex67
                          have hlB := lv_sub hl [0, 1, 2, 3, 4] rfl
                          have hPB := hP
                          have hSB := hSS
                          subst ex67 ex37
                          exact ih   _ _ _ _ _ _ _ hlB hPB hSB (by omega) hI K
                    refine hloop (n3 + 1)   wks30 wkc30 wrn30 woc30 _ _ ls (by have h9 := lv_sub hl [0, 1, 2, 3, 4] rfl; subst ex33; exact h9) hP hSS (by omega) hI (fun ks68 kc69 rn70 oc71 H locs ls hl hP hSS hI => ?_)
                    clear hloop
                    refine jv_iinc (a := 1) hx hb dM_init_198 hl (k := 0) rfl (by decide) (by decide) (fun x72 ex72 ls hl => ?_)
                    have hl : lv_has ls 6 [(3, .int x72), (2, .int (nI (13 - (n2 + 1)))), (1, .int (nI (13 - (n + 1)))), (0, .ref (g.2.2 0))] := hl
                    refine lv_goto (tgt := 101) hx hb dM_init_201 (by decide) ?_
                    rw [nI_up (by omega)] at ex72
                    have hlB := lv_sub hl [0, 1, 2, 3] rfl
                    have hPB := hP
                    have hSB := hSS
                    subst ex72 ex33
                    exact ih   _ _ _ _ _ _ _ hlB hPB hSB (by omega) hI K
              refine hloop (n2 + 1)   wks26 wkc26 wrn26 woc26 _ _ ls (by have h9 := lv_sub hl [0, 1, 2, 3] rfl; subst ex29; exact h9) hP hSS (by omega) hI (fun ks73 kc74 rn75 oc76 H locs ls hl hP hSS hI => ?_)
              clear hloop
              refine jv_iinc (a := 1) hx hb dM_init_204 hl (k := 0) rfl (by decide) (by decide) (fun x77 ex77 ls hl => ?_)
              have hl : lv_has ls 6 [(2, .int x77), (1, .int (nI (13 - (n + 1)))), (0, .ref (g.2.2 0))] := hl
              refine lv_goto (tgt := 93) hx hb dM_init_207 (by decide) ?_
              rw [nI_up (by omega)] at ex77
              have hlB := lv_sub hl [0, 1, 2] rfl
              have hPB := hP
              have hSB := hSS
              subst ex77 ex29
              exact ih   _ _ _ _ _ _ _ hlB hPB hSB (by omega) hI K
        refine hloop (n + 1)   wks22 wkc22 wrn22 woc22 _ _ ls (by have h9 := lv_sub hl [0, 1, 2] rfl; subst ex25; exact h9) hP hSS (by omega) hI (fun ks78 kc79 rn80 oc81 H locs ls hl hP hSS hI => ?_)
        clear hloop
        refine jv_iinc (a := 1) hx hb dM_init_210 hl (k := 0) rfl (by decide) (by decide) (fun x82 ex82 ls hl => ?_)
        have hl : lv_has ls 6 [(1, .int x82), (0, .ref (g.2.2 0))] := hl
        refine lv_goto (tgt := 85) hx hb dM_init_213 (by decide) ?_
        rw [nI_up (by omega)] at ex82
        have hlB := lv_sub hl [0, 1] rfl
        have hPB := hP
        have hSB := hSS
        subst ex82 ex25
        exact ih   _ _ _ _ _ _ _ hlB hPB hSB (by omega) hI K
  refine hloop 13   (fun _ => 0) 0 (fun _ => 0) (fun _ => 0) _ _ ls (by have h9 := lv_sub hl [0, 1] rfl; subst ex21; exact h9) hP hSS (by omega) hI (fun ks83 kc84 rn85 oc86 H locs ls hl hP hSS hI => ?_)
  clear hloop
  refine lv_aload_n hx hb dM_init_216 rfl (lv_at hl 0 rfl) ?_
  obtain ⟨hkc, hKS⟩ := kI_end hI
  rw [hkc] at hP
  refine mm_VA (cM_sort l g 0 ks83 rn85 oc86 (fun _ => 0) 0 (fun _ => 0) (fun _ => 0) 0 (fun _ => 0) 0 0 0 (fun _ => 0) (fun _ => 0) (fun _ => 0) 0 0 0 hap) rfl kM_M_sort hS hK hP ⟨Nat.le_of_ble_eq_true rfl, Nat.le_of_ble_eq_true rfl⟩ hl.1 rfl (Nat.le_of_ble_eq_true rfl) ⟨Nat.le_of_ble_eq_true rfl, Nat.le_of_ble_eq_true rfl⟩ dM_init_217 hSS hsub (fun v9 S9 H locs hR hP hSS _ _ => ?_)
  obtain ⟨rfl, rfl⟩ := hR
  obtain ⟨ks9, eks9⟩ : ∃ z, k_sort ks83 = z := ⟨_, rfl⟩
  rw [eks9] at hP
  have hP : va_P g.1 cl_X (mo_V g 0 ks9 (nI 7462) rn85 oc86 (fun _ => 0) 0 (fun _ => 0) (fun _ => 0) 0 (fun _ => 0) 0 0 0 (fun _ => 0) (fun _ => 0) (fun _ => 0) 0 0 0) H := hP
  refine lv_iconst (v := 0) hx hb dM_init_220 (by decide) ?_
  refine jt_topi (fun x87 ex87 => ?_)
  refine lv_istore_n (lv' := [(1, .int x87), (0, .ref (g.2.2 0))]) hx hb dM_init_221 rfl hl (by decide) rfl (fun ls hl => ?_)
  have hloop : ∀ (n : Nat)   (wse88 : Nat → Int32) (H : Heap) (locs : List Loc) (ls : Array Slot), lv_has ls 6 [(1, .int (nI (12 - n))), (0, .ref (g.2.2 0))] → va_P g.1 cl_X (mo_V g 0 ks9 (nI 7462) rn85 oc86 (fun _ => 0) 0 wse88 (fun _ => 0) 0 (fun _ => 0) 0 0 0 (fun _ => 0) (fun _ => 0) (fun _ => 0) 0 0 0) H → va_S (in_A h0 s.heap.size) s.heap H locs → (n ≤ 12) → (∀  (H : Heap) (locs : List Loc) (ls : Array Slot), lv_has ls 6 [(0, .ref (g.2.2 0))] → va_P g.1 cl_X (mo_V g 0 ks9 (nI 7462) rn85 oc86 (fun _ => 0) 0 (ke1_lp n wse88) (fun _ => 0) 0 (fun _ => 0) 0 0 0 (fun _ => 0) (fun _ => 0) (fun _ => 0) 0 0 0) H → va_S (in_A h0 s.heap.size) s.heap H locs → W p l e (headSpec (wd yM_init bM_init 6 none) (rmD 3 10 7620)).room s m ([.ref h0]).toArray below meth c H locs 10 7620 (MQ below (inM_Q D h0) ([.ref h0]).toArray s 10 7620 (in_A h0 s.heap.size)) (F0 m 241 ls [])) → W p l e (headSpec (wd yM_init bM_init 6 none) (rmD 3 10 7620)).room s m ([.ref h0]).toArray below meth c H locs 10 7620 (MQ below (inM_Q D h0) ([.ref h0]).toArray s 10 7620 (in_A h0 s.heap.size)) (F0 m 222 ls []) := by
    intro n
    induction n with
    | zero =>
      intro   wse88 H locs ls hl hP hSS hn K
      refine lv_iload_n hx hb dM_init_222 rfl (lv_at hl 0 rfl) ?_
      refine lv_bipush (v := 12) hx hb dM_init_223 (by decide) ?_
      refine lv_icmp_ge (tgt := 241) hx hb dM_init_225 (by decide) (fun hc89 => ?_) (fun hc89 => ?_)
      · have hlB := lv_sub hl [1] rfl
        have hPB := hP
        have hSB := hSS
        simp only [ke1_lp] at K
        exact K  _ _ _ hlB hPB hSB 
      · exact absurd (by decide) hc89
    | succ n ih =>
      intro   wse88 H locs ls hl hP hSS hn K
      refine lv_iload_n hx hb dM_init_222 rfl (lv_at hl 0 rfl) ?_
      refine lv_bipush (v := 12) hx hb dM_init_223 (by decide) ?_
      refine lv_icmp_ge (tgt := 241) hx hb dM_init_225 (by decide) (fun hc90 => ?_) (fun hc90 => ?_)
      · exact absurd hc90 (nI_ge (b := 12) (by omega) (by decide))
      · refine lv_aload_n hx hb dM_init_228 rfl (lv_at hl 1 rfl) ?_
        refine va_get (D := g.1) (ci := 1) (v := .ref (g.2.2 5)) (C := "HandTablesModel") (T := T_M) (N := 20) hx hb hts (fun w hw => wd_in (u_inM w hw)) hown hK hP 0 rfl rfl 7 (by decide) (hts _ (wd_in (gw_mem 464 rfl rfl))) (fun _ h => h) rfl dM_init_229 ?_
        refine lv_iload_n hx hb dM_init_232 rfl (lv_at hl 0 rfl) ?_
        refine lv_iconst (v := (-1)) hx hb dM_init_233 (by decide) ?_
        refine va_iast (x := (-1)) hx hb hK hP (mo_DA hap hsub) hSS 5 0 rfl rfl (vp_in_nI (by omega) (by decide)) dM_init_234 (fun H locs hP _ hSS => ?_)
        have hP : va_P g.1 cl_X (mo_V g 0 ks9 (nI 7462) rn85 oc86 (fun _ => 0) 0 (upd wse88 ((nI (12 - (n + 1))) : Int32).toNatClampNeg (-1)) (fun _ => 0) 0 (fun _ => 0) 0 0 0 (fun _ => 0) (fun _ => 0) (fun _ => 0) 0 0 0) H := hP
        refine jv_iinc (a := 1) hx hb dM_init_235 hl (k := 0) rfl (by decide) (by decide) (fun x91 ex91 ls hl => ?_)
        have hl : lv_has ls 6 [(1, .int x91), (0, .ref (g.2.2 0))] := hl
        refine lv_goto (tgt := 222) hx hb dM_init_238 (by decide) ?_
        rw [nI_up (by omega)] at ex91
        have hlB := lv_sub hl [0, 1] rfl
        have hPB := hP
        have hSB := hSS
        subst ex91
        simp only [ke1_lp] at K
        exact ih   _ _ _ _ hlB hPB hSB (by omega) K
  refine hloop 12   (fun _ => 0) _ _ ls (by have h9 := lv_sub hl [0, 1] rfl; subst ex87; exact h9) hP hSS (by decide) (fun  H locs ls hl hP hSS  => ?_)
  clear hloop
  obtain ⟨hse92, ehse92⟩ : ∃ z, (ke1_lp 12 (fun _ => 0)) = z := ⟨_, rfl⟩
  rw [ehse92] at hP
  refine lv_aload_n hx hb dM_init_241 rfl (lv_at hl 0 rfl) ?_
  refine mm_VA (cM_freshDeck l g 0 ks9 (nI 7462) rn85 oc86 (fun _ => 0) 0 hse92 (fun _ => 0) 0 (fun _ => 0) 0 0 0 (fun _ => 0) (fun _ => 0) (fun _ => 0) 0 0 0 hap) rfl kM_M_freshDeck hS hK hP ⟨Nat.le_of_ble_eq_true rfl, Nat.le_of_ble_eq_true rfl⟩ hl.1 rfl (Nat.le_of_ble_eq_true rfl) ⟨Nat.le_of_ble_eq_true rfl, Nat.le_of_ble_eq_true rfl⟩ dM_init_242 hSS hsub (fun v9 S9 H locs hR hP hSS _ _ => ?_)
  obtain ⟨rfl, rfl⟩ := hR
  obtain ⟨dk9, edk9⟩ : ∃ z, k_fresh (fun _ => 0) = z := ⟨_, rfl⟩
  rw [edk9] at hP
  have hP : va_P g.1 cl_X (mo_V g 0 ks9 (nI 7462) rn85 oc86 (fun _ => 0) 0 hse92 (fun _ => 0) 0 dk9 0 0 0 (fun _ => 0) (fun _ => 0) (fun _ => 0) 0 0 0) H := hP
  exact W.vret hx hb hr (fun t ht hW => ⟨rfl, g.2.1, g.2.2, (0, ks9, (nI 7462), rn85, oc86, (fun _ => 0), 0, hse92, (fun _ => 0), 0, dk9, 0, 0, 0, (fun _ => 0), (fun _ => 0), (fun _ => 0), 0, 0, 0), e0, hap9, ⟨ks83, _, _, hKS, by unfold k_se0; rw [eks9, ehse92, edk9]⟩, by rw [ht]; exact hPD hP, va_K.moved hW.alike hKD, hnew, hSS.F ht⟩) hSS.2.2 dM_init_245 hlk
